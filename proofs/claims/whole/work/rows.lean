section
-- ===== PART A: goes FIRST, ahead of the names: the tables' words, and 'selects' of the private methods out of them =====
/-- a private method of a class that the tables say can be made, by its rows of tables_1 -/
def lw_okq (q : MethodName × Nat) : Prop := (q.1.cls ≠ "java/lang/invoke/MethodHandle" ∧ q.1.cls ≠ "java/lang/invoke/VarHandle") ∧ Cond.instantiable q.1.cls q.2 ∈ tables_1 ∧ Cond.privateMethod q.1 ∈ tables_1 ∧ Cond.instanceMethod q.1 ∈ tables_1
theorem lw_p0 : lw_okq (⟨"BlockTruths$Question", "await", "(I)V"⟩, 9) := ⟨⟨by decide +kernel, by decide +kernel⟩, List.mem_of_getElem? (i := 107) (by decide +kernel), List.mem_of_getElem? (i := 118) (by decide +kernel), List.mem_of_getElem? (i := 119) (by decide +kernel)⟩
theorem lw_p1 : lw_okq (⟨"BlockTruths$Summary", "enlist", "(I)V"⟩, 7) := ⟨⟨by decide +kernel, by decide +kernel⟩, List.mem_of_getElem? (i := 38) (by decide +kernel), List.mem_of_getElem? (i := 292) (by decide +kernel), List.mem_of_getElem? (i := 293) (by decide +kernel)⟩
theorem lw_p2 : lw_okq (⟨"BlockTruths$Summary", "placeOf", "(I)I"⟩, 7) := ⟨⟨by decide +kernel, by decide +kernel⟩, List.mem_of_getElem? (i := 38) (by decide +kernel), List.mem_of_getElem? (i := 296) (by decide +kernel), List.mem_of_getElem? (i := 297) (by decide +kernel)⟩
theorem lw_p3 : lw_okq (⟨"BlockTruths", "isRow", "(II)Z"⟩, 9) := ⟨⟨by decide +kernel, by decide +kernel⟩, List.mem_of_getElem? (i := 14) (by decide +kernel), List.mem_of_getElem? (i := 304) (by decide +kernel), List.mem_of_getElem? (i := 305) (by decide +kernel)⟩
theorem lw_p4 : lw_okq (⟨"BlockTruths$Block", "makeFresh", "(I)V"⟩, 4) := ⟨⟨by decide +kernel, by decide +kernel⟩, List.mem_of_getElem? (i := 29) (by decide +kernel), List.mem_of_getElem? (i := 331) (by decide +kernel), List.mem_of_getElem? (i := 332) (by decide +kernel)⟩
theorem lw_p5 : lw_okq (⟨"BlockTruths$Question", "canStand", "(I)Z"⟩, 9) := ⟨⟨by decide +kernel, by decide +kernel⟩, List.mem_of_getElem? (i := 107) (by decide +kernel), List.mem_of_getElem? (i := 372) (by decide +kernel), List.mem_of_getElem? (i := 373) (by decide +kernel)⟩
theorem lw_p6 : lw_okq (⟨"BlockTruths$Question", "beginsTruth", "(I)Z"⟩, 9) := ⟨⟨by decide +kernel, by decide +kernel⟩, List.mem_of_getElem? (i := 107) (by decide +kernel), List.mem_of_getElem? (i := 376) (by decide +kernel), List.mem_of_getElem? (i := 377) (by decide +kernel)⟩
theorem lw_p7 : lw_okq (⟨"BlockTruths$Question", "beginsTerm", "(I)Z"⟩, 9) := ⟨⟨by decide +kernel, by decide +kernel⟩, List.mem_of_getElem? (i := 107) (by decide +kernel), List.mem_of_getElem? (i := 380) (by decide +kernel), List.mem_of_getElem? (i := 381) (by decide +kernel)⟩
theorem lw_p8 : lw_okq (⟨"BlockTruths$Question", "findParts", "()V"⟩, 9) := ⟨⟨by decide +kernel, by decide +kernel⟩, List.mem_of_getElem? (i := 107) (by decide +kernel), List.mem_of_getElem? (i := 394) (by decide +kernel), List.mem_of_getElem? (i := 395) (by decide +kernel)⟩
theorem lw_p9 : lw_okq (⟨"BlockTruths$Question", "numberAt", "(I)I"⟩, 9) := ⟨⟨by decide +kernel, by decide +kernel⟩, List.mem_of_getElem? (i := 107) (by decide +kernel), List.mem_of_getElem? (i := 401) (by decide +kernel), List.mem_of_getElem? (i := 402) (by decide +kernel)⟩
theorem lw_p10 : lw_okq (⟨"BlockTruths$Question", "figureAt", "(I)I"⟩, 9) := ⟨⟨by decide +kernel, by decide +kernel⟩, List.mem_of_getElem? (i := 107) (by decide +kernel), List.mem_of_getElem? (i := 405) (by decide +kernel), List.mem_of_getElem? (i := 406) (by decide +kernel)⟩
theorem lw_p11 : lw_okq (⟨"BlockTruths$RowJudge", "truthAt", "(I[I)I"⟩, 2) := ⟨⟨by decide +kernel, by decide +kernel⟩, List.mem_of_getElem? (i := 162) (by decide +kernel), List.mem_of_getElem? (i := 437) (by decide +kernel), List.mem_of_getElem? (i := 438) (by decide +kernel)⟩
theorem lw_p12 : lw_okq (⟨"BlockTruths$RowJudge", "termAt", "(I[I)I"⟩, 2) := ⟨⟨by decide +kernel, by decide +kernel⟩, List.mem_of_getElem? (i := 162) (by decide +kernel), List.mem_of_getElem? (i := 452) (by decide +kernel), List.mem_of_getElem? (i := 453) (by decide +kernel)⟩
theorem lw_p13 : lw_okq (⟨"BlockTruths", "isPlace", "(I)Z"⟩, 9) := ⟨⟨by decide +kernel, by decide +kernel⟩, List.mem_of_getElem? (i := 14) (by decide +kernel), List.mem_of_getElem? (i := 469) (by decide +kernel), List.mem_of_getElem? (i := 470) (by decide +kernel)⟩
theorem lw_p14 : lw_okq (⟨"BlockTruths$RangeJudge", "chancesAt", "(ILBlockTruths$Block;)I"⟩, 4) := ⟨⟨by decide +kernel, by decide +kernel⟩, List.mem_of_getElem? (i := 175) (by decide +kernel), List.mem_of_getElem? (i := 479) (by decide +kernel), List.mem_of_getElem? (i := 480) (by decide +kernel)⟩
theorem lw_p15 : lw_okq (⟨"BlockTruths$RangeJudge", "comparedChances", "(III)I"⟩, 4) := ⟨⟨by decide +kernel, by decide +kernel⟩, List.mem_of_getElem? (i := 175) (by decide +kernel), List.mem_of_getElem? (i := 488) (by decide +kernel), List.mem_of_getElem? (i := 489) (by decide +kernel)⟩
def lw_privs_1 : List (MethodName × Nat) := [(⟨"BlockTruths$Question", "await", "(I)V"⟩, 9), (⟨"BlockTruths$Summary", "enlist", "(I)V"⟩, 7), (⟨"BlockTruths$Summary", "placeOf", "(I)I"⟩, 7), (⟨"BlockTruths", "isRow", "(II)Z"⟩, 9), (⟨"BlockTruths$Block", "makeFresh", "(I)V"⟩, 4), (⟨"BlockTruths$Question", "canStand", "(I)Z"⟩, 9), (⟨"BlockTruths$Question", "beginsTruth", "(I)Z"⟩, 9), (⟨"BlockTruths$Question", "beginsTerm", "(I)Z"⟩, 9), (⟨"BlockTruths$Question", "findParts", "()V"⟩, 9), (⟨"BlockTruths$Question", "numberAt", "(I)I"⟩, 9), (⟨"BlockTruths$Question", "figureAt", "(I)I"⟩, 9), (⟨"BlockTruths$RowJudge", "truthAt", "(I[I)I"⟩, 2), (⟨"BlockTruths$RowJudge", "termAt", "(I[I)I"⟩, 2), (⟨"BlockTruths", "isPlace", "(I)Z"⟩, 9), (⟨"BlockTruths$RangeJudge", "chancesAt", "(ILBlockTruths$Block;)I"⟩, 4), (⟨"BlockTruths$RangeJudge", "comparedChances", "(III)I"⟩, 4)]
theorem lw_r1 : ∀ q ∈ lw_privs_1, lw_okq q := List.forall_mem_cons.mpr ⟨lw_p0, List.forall_mem_cons.mpr ⟨lw_p1, List.forall_mem_cons.mpr ⟨lw_p2, List.forall_mem_cons.mpr ⟨lw_p3, List.forall_mem_cons.mpr ⟨lw_p4, List.forall_mem_cons.mpr ⟨lw_p5, List.forall_mem_cons.mpr ⟨lw_p6, List.forall_mem_cons.mpr ⟨lw_p7, List.forall_mem_cons.mpr ⟨lw_p8, List.forall_mem_cons.mpr ⟨lw_p9, List.forall_mem_cons.mpr ⟨lw_p10, List.forall_mem_cons.mpr ⟨lw_p11, List.forall_mem_cons.mpr ⟨lw_p12, List.forall_mem_cons.mpr ⟨lw_p13, List.forall_mem_cons.mpr ⟨lw_p14, List.forall_mem_cons.mpr ⟨lw_p15, fun _ h => absurd h List.not_mem_nil⟩⟩⟩⟩⟩⟩⟩⟩⟩⟩⟩⟩⟩⟩⟩⟩
theorem lw_p16 : lw_okq (⟨"BlockTruths$RangeJudge", "kindAt", "(ILBlockTruths$Block;)I"⟩, 4) := ⟨⟨by decide +kernel, by decide +kernel⟩, List.mem_of_getElem? (i := 175) (by decide +kernel), List.mem_of_getElem? (i := 504) (by decide +kernel), List.mem_of_getElem? (i := 505) (by decide +kernel)⟩
theorem lw_p17 : lw_okq (⟨"BlockTruths$RangeJudge", "findBounds", "(ILBlockTruths$Block;)V"⟩, 4) := ⟨⟨by decide +kernel, by decide +kernel⟩, List.mem_of_getElem? (i := 175) (by decide +kernel), List.mem_of_getElem? (i := 511) (by decide +kernel), List.mem_of_getElem? (i := 512) (by decide +kernel)⟩
theorem lw_p18 : lw_okq (⟨"BlockTruths$RangeJudge", "setBounds", "(III)V"⟩, 4) := ⟨⟨by decide +kernel, by decide +kernel⟩, List.mem_of_getElem? (i := 175) (by decide +kernel), List.mem_of_getElem? (i := 516) (by decide +kernel), List.mem_of_getElem? (i := 517) (by decide +kernel)⟩
theorem lw_p19 : lw_okq (⟨"BlockTruths$RangeJudge", "byteBounds", "(III)V"⟩, 4) := ⟨⟨by decide +kernel, by decide +kernel⟩, List.mem_of_getElem? (i := 175) (by decide +kernel), List.mem_of_getElem? (i := 520) (by decide +kernel), List.mem_of_getElem? (i := 521) (by decide +kernel)⟩
theorem lw_p20 : lw_okq (⟨"BlockTruths$RangeJudge", "leftOverBounds", "(IIII)V"⟩, 4) := ⟨⟨by decide +kernel, by decide +kernel⟩, List.mem_of_getElem? (i := 175) (by decide +kernel), List.mem_of_getElem? (i := 524) (by decide +kernel), List.mem_of_getElem? (i := 525) (by decide +kernel)⟩
theorem lw_p21 : lw_okq (⟨"BlockTruths$RangeJudge", "sumBounds", "(III)V"⟩, 4) := ⟨⟨by decide +kernel, by decide +kernel⟩, List.mem_of_getElem? (i := 175) (by decide +kernel), List.mem_of_getElem? (i := 530) (by decide +kernel), List.mem_of_getElem? (i := 531) (by decide +kernel)⟩
theorem lw_p22 : lw_okq (⟨"BlockTruths$RangeJudge", "productBounds", "(II)V"⟩, 4) := ⟨⟨by decide +kernel, by decide +kernel⟩, List.mem_of_getElem? (i := 175) (by decide +kernel), List.mem_of_getElem? (i := 535) (by decide +kernel), List.mem_of_getElem? (i := 536) (by decide +kernel)⟩
theorem lw_p23 : lw_okq (⟨"BlockTruths", "chancesIn", "(LBlockTruths$Block;)I"⟩, 9) := ⟨⟨by decide +kernel, by decide +kernel⟩, List.mem_of_getElem? (i := 14) (by decide +kernel), List.mem_of_getElem? (i := 547) (by decide +kernel), List.mem_of_getElem? (i := 548) (by decide +kernel)⟩
theorem lw_p24 : lw_okq (⟨"BlockTruths", "chancesByList", "(LBlockTruths$Summary;I)I"⟩, 9) := ⟨⟨by decide +kernel, by decide +kernel⟩, List.mem_of_getElem? (i := 14) (by decide +kernel), List.mem_of_getElem? (i := 555) (by decide +kernel), List.mem_of_getElem? (i := 556) (by decide +kernel)⟩
theorem lw_p25 : lw_okq (⟨"BlockTruths", "countMatches", "()I"⟩, 9) := ⟨⟨by decide +kernel, by decide +kernel⟩, List.mem_of_getElem? (i := 14) (by decide +kernel), List.mem_of_getElem? (i := 567) (by decide +kernel), List.mem_of_getElem? (i := 568) (by decide +kernel)⟩
theorem lw_p26 : lw_okq (⟨"BlockTruths", "isMatch", "([I)Z"⟩, 9) := ⟨⟨by decide +kernel, by decide +kernel⟩, List.mem_of_getElem? (i := 14) (by decide +kernel), List.mem_of_getElem? (i := 571) (by decide +kernel), List.mem_of_getElem? (i := 572) (by decide +kernel)⟩
theorem lw_p27 : lw_okq (⟨"BlockTruths", "countUnlikeMatches", "()I"⟩, 9) := ⟨⟨by decide +kernel, by decide +kernel⟩, List.mem_of_getElem? (i := 14) (by decide +kernel), List.mem_of_getElem? (i := 575) (by decide +kernel), List.mem_of_getElem? (i := 576) (by decide +kernel)⟩
theorem lw_p28 : lw_okq (⟨"BlockTruths", "weighBlocks", "()V"⟩, 9) := ⟨⟨by decide +kernel, by decide +kernel⟩, List.mem_of_getElem? (i := 14) (by decide +kernel), List.mem_of_getElem? (i := 589) (by decide +kernel), List.mem_of_getElem? (i := 590) (by decide +kernel)⟩
theorem lw_p29 : lw_okq (⟨"BlockTruths", "countScannedRows", "()I"⟩, 9) := ⟨⟨by decide +kernel, by decide +kernel⟩, List.mem_of_getElem? (i := 14) (by decide +kernel), List.mem_of_getElem? (i := 593) (by decide +kernel), List.mem_of_getElem? (i := 594) (by decide +kernel)⟩
theorem lw_p30 : lw_okq (⟨"BlockTruths", "blocksRuled", "(I)I"⟩, 9) := ⟨⟨by decide +kernel, by decide +kernel⟩, List.mem_of_getElem? (i := 14) (by decide +kernel), List.mem_of_getElem? (i := 597) (by decide +kernel), List.mem_of_getElem? (i := 598) (by decide +kernel)⟩
theorem lw_p31 : lw_okq (⟨"BlockTruths", "countRowsToRead", "(I)I"⟩, 9) := ⟨⟨by decide +kernel, by decide +kernel⟩, List.mem_of_getElem? (i := 14) (by decide +kernel), List.mem_of_getElem? (i := 605) (by decide +kernel), List.mem_of_getElem? (i := 606) (by decide +kernel)⟩
def lw_privs_2 : List (MethodName × Nat) := [(⟨"BlockTruths$RangeJudge", "kindAt", "(ILBlockTruths$Block;)I"⟩, 4), (⟨"BlockTruths$RangeJudge", "findBounds", "(ILBlockTruths$Block;)V"⟩, 4), (⟨"BlockTruths$RangeJudge", "setBounds", "(III)V"⟩, 4), (⟨"BlockTruths$RangeJudge", "byteBounds", "(III)V"⟩, 4), (⟨"BlockTruths$RangeJudge", "leftOverBounds", "(IIII)V"⟩, 4), (⟨"BlockTruths$RangeJudge", "sumBounds", "(III)V"⟩, 4), (⟨"BlockTruths$RangeJudge", "productBounds", "(II)V"⟩, 4), (⟨"BlockTruths", "chancesIn", "(LBlockTruths$Block;)I"⟩, 9), (⟨"BlockTruths", "chancesByList", "(LBlockTruths$Summary;I)I"⟩, 9), (⟨"BlockTruths", "countMatches", "()I"⟩, 9), (⟨"BlockTruths", "isMatch", "([I)Z"⟩, 9), (⟨"BlockTruths", "countUnlikeMatches", "()I"⟩, 9), (⟨"BlockTruths", "weighBlocks", "()V"⟩, 9), (⟨"BlockTruths", "countScannedRows", "()I"⟩, 9), (⟨"BlockTruths", "blocksRuled", "(I)I"⟩, 9), (⟨"BlockTruths", "countRowsToRead", "(I)I"⟩, 9)]
theorem lw_r2 : ∀ q ∈ lw_privs_2, lw_okq q := List.forall_mem_cons.mpr ⟨lw_p16, List.forall_mem_cons.mpr ⟨lw_p17, List.forall_mem_cons.mpr ⟨lw_p18, List.forall_mem_cons.mpr ⟨lw_p19, List.forall_mem_cons.mpr ⟨lw_p20, List.forall_mem_cons.mpr ⟨lw_p21, List.forall_mem_cons.mpr ⟨lw_p22, List.forall_mem_cons.mpr ⟨lw_p23, List.forall_mem_cons.mpr ⟨lw_p24, List.forall_mem_cons.mpr ⟨lw_p25, List.forall_mem_cons.mpr ⟨lw_p26, List.forall_mem_cons.mpr ⟨lw_p27, List.forall_mem_cons.mpr ⟨lw_p28, List.forall_mem_cons.mpr ⟨lw_p29, List.forall_mem_cons.mpr ⟨lw_p30, List.forall_mem_cons.mpr ⟨lw_p31, fun _ h => absurd h List.not_mem_nil⟩⟩⟩⟩⟩⟩⟩⟩⟩⟩⟩⟩⟩⟩⟩⟩
theorem lw_p32 : lw_okq (⟨"BlockTruths", "tallyMatches", "(I)V"⟩, 9) := ⟨⟨by decide +kernel, by decide +kernel⟩, List.mem_of_getElem? (i := 14) (by decide +kernel), List.mem_of_getElem? (i := 609) (by decide +kernel), List.mem_of_getElem? (i := 610) (by decide +kernel)⟩
theorem lw_p33 : lw_okq (⟨"BlockTruths", "countUnlike", "(LBlockTruths$Block;)I"⟩, 9) := ⟨⟨by decide +kernel, by decide +kernel⟩, List.mem_of_getElem? (i := 14) (by decide +kernel), List.mem_of_getElem? (i := 647) (by decide +kernel), List.mem_of_getElem? (i := 648) (by decide +kernel)⟩
theorem lw_p34 : lw_okq (⟨"BlockTruthsModel", "clear", "(I)V"⟩, 18) := ⟨⟨by decide +kernel, by decide +kernel⟩, List.mem_of_getElem? (i := 651) (by decide +kernel), List.mem_of_getElem? (i := 657) (by decide +kernel), List.mem_of_getElem? (i := 658) (by decide +kernel)⟩
theorem lw_p35 : lw_okq (⟨"BlockTruthsModel", "come", "(II)V"⟩, 18) := ⟨⟨by decide +kernel, by decide +kernel⟩, List.mem_of_getElem? (i := 651) (by decide +kernel), List.mem_of_getElem? (i := 728) (by decide +kernel), List.mem_of_getElem? (i := 729) (by decide +kernel)⟩
theorem lw_p36 : lw_okq (⟨"BlockTruthsModel", "placeOf", "(II)I"⟩, 18) := ⟨⟨by decide +kernel, by decide +kernel⟩, List.mem_of_getElem? (i := 651) (by decide +kernel), List.mem_of_getElem? (i := 732) (by decide +kernel), List.mem_of_getElem? (i := 733) (by decide +kernel)⟩
theorem lw_p37 : lw_okq (⟨"BlockTruthsModel", "isRow", "(II)Z"⟩, 18) := ⟨⟨by decide +kernel, by decide +kernel⟩, List.mem_of_getElem? (i := 651) (by decide +kernel), List.mem_of_getElem? (i := 740) (by decide +kernel), List.mem_of_getElem? (i := 741) (by decide +kernel)⟩
theorem lw_p38 : lw_okq (⟨"BlockTruthsModel", "at", "(III)I"⟩, 18) := ⟨⟨by decide +kernel, by decide +kernel⟩, List.mem_of_getElem? (i := 651) (by decide +kernel), List.mem_of_getElem? (i := 744) (by decide +kernel), List.mem_of_getElem? (i := 745) (by decide +kernel)⟩
theorem lw_p39 : lw_okq (⟨"BlockTruthsModel", "isStale", "(II)Z"⟩, 18) := ⟨⟨by decide +kernel, by decide +kernel⟩, List.mem_of_getElem? (i := 651) (by decide +kernel), List.mem_of_getElem? (i := 752) (by decide +kernel), List.mem_of_getElem? (i := 753) (by decide +kernel)⟩
theorem lw_p40 : lw_okq (⟨"BlockTruthsModel", "makeAnew", "(II)V"⟩, 18) := ⟨⟨by decide +kernel, by decide +kernel⟩, List.mem_of_getElem? (i := 651) (by decide +kernel), List.mem_of_getElem? (i := 756) (by decide +kernel), List.mem_of_getElem? (i := 757) (by decide +kernel)⟩
theorem lw_p41 : lw_okq (⟨"BlockTruthsModel", "read", "()I"⟩, 18) := ⟨⟨by decide +kernel, by decide +kernel⟩, List.mem_of_getElem? (i := 651) (by decide +kernel), List.mem_of_getElem? (i := 789) (by decide +kernel), List.mem_of_getElem? (i := 790) (by decide +kernel)⟩
theorem lw_p42 : lw_okq (⟨"BlockTruthsModel", "truthOfRow", "(II)I"⟩, 18) := ⟨⟨by decide +kernel, by decide +kernel⟩, List.mem_of_getElem? (i := 651) (by decide +kernel), List.mem_of_getElem? (i := 806) (by decide +kernel), List.mem_of_getElem? (i := 807) (by decide +kernel)⟩
theorem lw_p43 : lw_okq (⟨"BlockTruthsModel", "layRow", "()V"⟩, 18) := ⟨⟨by decide +kernel, by decide +kernel⟩, List.mem_of_getElem? (i := 651) (by decide +kernel), List.mem_of_getElem? (i := 810) (by decide +kernel), List.mem_of_getElem? (i := 811) (by decide +kernel)⟩
theorem lw_p44 : lw_okq (⟨"BlockTruthsModel", "isTerm", "(I)Z"⟩, 18) := ⟨⟨by decide +kernel, by decide +kernel⟩, List.mem_of_getElem? (i := 651) (by decide +kernel), List.mem_of_getElem? (i := 814) (by decide +kernel), List.mem_of_getElem? (i := 815) (by decide +kernel)⟩
theorem lw_p45 : lw_okq (⟨"BlockTruthsModel", "number", "(I)I"⟩, 18) := ⟨⟨by decide +kernel, by decide +kernel⟩, List.mem_of_getElem? (i := 651) (by decide +kernel), List.mem_of_getElem? (i := 818) (by decide +kernel), List.mem_of_getElem? (i := 819) (by decide +kernel)⟩
theorem lw_p46 : lw_okq (⟨"BlockTruthsModel", "three", "(I)I"⟩, 18) := ⟨⟨by decide +kernel, by decide +kernel⟩, List.mem_of_getElem? (i := 651) (by decide +kernel), List.mem_of_getElem? (i := 822) (by decide +kernel), List.mem_of_getElem? (i := 823) (by decide +kernel)⟩
theorem lw_p47 : lw_okq (⟨"BlockTruthsModel", "truthAt", "(I)I"⟩, 18) := ⟨⟨by decide +kernel, by decide +kernel⟩, List.mem_of_getElem? (i := 651) (by decide +kernel), List.mem_of_getElem? (i := 836) (by decide +kernel), List.mem_of_getElem? (i := 837) (by decide +kernel)⟩
def lw_privs_3 : List (MethodName × Nat) := [(⟨"BlockTruths", "tallyMatches", "(I)V"⟩, 9), (⟨"BlockTruths", "countUnlike", "(LBlockTruths$Block;)I"⟩, 9), (⟨"BlockTruthsModel", "clear", "(I)V"⟩, 18), (⟨"BlockTruthsModel", "come", "(II)V"⟩, 18), (⟨"BlockTruthsModel", "placeOf", "(II)I"⟩, 18), (⟨"BlockTruthsModel", "isRow", "(II)Z"⟩, 18), (⟨"BlockTruthsModel", "at", "(III)I"⟩, 18), (⟨"BlockTruthsModel", "isStale", "(II)Z"⟩, 18), (⟨"BlockTruthsModel", "makeAnew", "(II)V"⟩, 18), (⟨"BlockTruthsModel", "read", "()I"⟩, 18), (⟨"BlockTruthsModel", "truthOfRow", "(II)I"⟩, 18), (⟨"BlockTruthsModel", "layRow", "()V"⟩, 18), (⟨"BlockTruthsModel", "isTerm", "(I)Z"⟩, 18), (⟨"BlockTruthsModel", "number", "(I)I"⟩, 18), (⟨"BlockTruthsModel", "three", "(I)I"⟩, 18), (⟨"BlockTruthsModel", "truthAt", "(I)I"⟩, 18)]
theorem lw_r3 : ∀ q ∈ lw_privs_3, lw_okq q := List.forall_mem_cons.mpr ⟨lw_p32, List.forall_mem_cons.mpr ⟨lw_p33, List.forall_mem_cons.mpr ⟨lw_p34, List.forall_mem_cons.mpr ⟨lw_p35, List.forall_mem_cons.mpr ⟨lw_p36, List.forall_mem_cons.mpr ⟨lw_p37, List.forall_mem_cons.mpr ⟨lw_p38, List.forall_mem_cons.mpr ⟨lw_p39, List.forall_mem_cons.mpr ⟨lw_p40, List.forall_mem_cons.mpr ⟨lw_p41, List.forall_mem_cons.mpr ⟨lw_p42, List.forall_mem_cons.mpr ⟨lw_p43, List.forall_mem_cons.mpr ⟨lw_p44, List.forall_mem_cons.mpr ⟨lw_p45, List.forall_mem_cons.mpr ⟨lw_p46, List.forall_mem_cons.mpr ⟨lw_p47, fun _ h => absurd h List.not_mem_nil⟩⟩⟩⟩⟩⟩⟩⟩⟩⟩⟩⟩⟩⟩⟩⟩
theorem lw_p48 : lw_okq (⟨"BlockTruthsModel", "layBlock", "(I)V"⟩, 18) := ⟨⟨by decide +kernel, by decide +kernel⟩, List.mem_of_getElem? (i := 651) (by decide +kernel), List.mem_of_getElem? (i := 855) (by decide +kernel), List.mem_of_getElem? (i := 856) (by decide +kernel)⟩
theorem lw_p49 : lw_okq (⟨"BlockTruthsModel", "layRange", "(II)V"⟩, 18) := ⟨⟨by decide +kernel, by decide +kernel⟩, List.mem_of_getElem? (i := 651) (by decide +kernel), List.mem_of_getElem? (i := 859) (by decide +kernel), List.mem_of_getElem? (i := 860) (by decide +kernel)⟩
theorem lw_p50 : lw_okq (⟨"BlockTruthsModel", "mayAt", "(II)I"⟩, 18) := ⟨⟨by decide +kernel, by decide +kernel⟩, List.mem_of_getElem? (i := 651) (by decide +kernel), List.mem_of_getElem? (i := 863) (by decide +kernel), List.mem_of_getElem? (i := 864) (by decide +kernel)⟩
theorem lw_p51 : lw_okq (⟨"BlockTruthsModel", "verdictOf", "(I)I"⟩, 18) := ⟨⟨by decide +kernel, by decide +kernel⟩, List.mem_of_getElem? (i := 651) (by decide +kernel), List.mem_of_getElem? (i := 878) (by decide +kernel), List.mem_of_getElem? (i := 879) (by decide +kernel)⟩
theorem lw_p52 : lw_okq (⟨"BlockTruthsModel", "mayOf", "(I)I"⟩, 18) := ⟨⟨by decide +kernel, by decide +kernel⟩, List.mem_of_getElem? (i := 651) (by decide +kernel), List.mem_of_getElem? (i := 882) (by decide +kernel), List.mem_of_getElem? (i := 883) (by decide +kernel)⟩
theorem lw_p53 : lw_okq (⟨"BlockTruthsModel", "onlyColumn", "()I"⟩, 18) := ⟨⟨by decide +kernel, by decide +kernel⟩, List.mem_of_getElem? (i := 651) (by decide +kernel), List.mem_of_getElem? (i := 886) (by decide +kernel), List.mem_of_getElem? (i := 887) (by decide +kernel)⟩
theorem lw_p54 : lw_okq (⟨"BlockTruthsModel", "isLike", "(IIII)Z"⟩, 18) := ⟨⟨by decide +kernel, by decide +kernel⟩, List.mem_of_getElem? (i := 651) (by decide +kernel), List.mem_of_getElem? (i := 894) (by decide +kernel), List.mem_of_getElem? (i := 895) (by decide +kernel)⟩
def lw_privs_4 : List (MethodName × Nat) := [(⟨"BlockTruthsModel", "layBlock", "(I)V"⟩, 18), (⟨"BlockTruthsModel", "layRange", "(II)V"⟩, 18), (⟨"BlockTruthsModel", "mayAt", "(II)I"⟩, 18), (⟨"BlockTruthsModel", "verdictOf", "(I)I"⟩, 18), (⟨"BlockTruthsModel", "mayOf", "(I)I"⟩, 18), (⟨"BlockTruthsModel", "onlyColumn", "()I"⟩, 18), (⟨"BlockTruthsModel", "isLike", "(IIII)Z"⟩, 18)]
theorem lw_r4 : ∀ q ∈ lw_privs_4, lw_okq q := List.forall_mem_cons.mpr ⟨lw_p48, List.forall_mem_cons.mpr ⟨lw_p49, List.forall_mem_cons.mpr ⟨lw_p50, List.forall_mem_cons.mpr ⟨lw_p51, List.forall_mem_cons.mpr ⟨lw_p52, List.forall_mem_cons.mpr ⟨lw_p53, List.forall_mem_cons.mpr ⟨lw_p54, fun _ h => absurd h List.not_mem_nil⟩⟩⟩⟩⟩⟩⟩
def lw_privs : List (MethodName × Nat) := lw_privs_1 ++ (lw_privs_2 ++ (lw_privs_3 ++ (lw_privs_4)))
def lw_tbl : List Cond := k2_sels lw_privs ++ tables_1
theorem lw_privs_ok : ∀ q ∈ lw_privs, lw_okq q := by
  show ∀ q ∈ lw_privs_1 ++ (lw_privs_2 ++ (lw_privs_3 ++ (lw_privs_4))), lw_okq q
  exact List.forall_mem_append.mpr ⟨lw_r1, List.forall_mem_append.mpr ⟨lw_r2, List.forall_mem_append.mpr ⟨lw_r3, lw_r4⟩⟩⟩
/-! ===== BEGIN printed: names, fields, word lists, decode rows ===== -/
def RX0 : String := "BlockTruths$Block"
def TX0 : u_T := fun k => match k with
  | 0 => ("BlockTruths$Block", "rows", "I", false)
  | 1 => ("BlockTruths$Block", "cells", "[[I", true)
  | 2 => ("BlockTruths$Block", "summaries", "[LBlockTruths$Summary;", true)
  | _ => ("BlockTruths$Block", "fresh", "LBlockTruths$Summary;", true)
def tyX0 : Nat → FieldType := fun k => match k with
  | 0 => .int
  | 1 => .array (.array .int)
  | 2 => .array (.object "BlockTruths$Summary")
  | _ => .object "BlockTruths$Summary"
abbrev wsX00 : List Cond := u_ws RX0 TX0 4
theorem nmX0 : ∀ a, a < 4 → ∀ b, b < 4 → a ≠ b → (TX0 a).2.1 ≠ (TX0 b).2.1 := by decide +kernel
theorem tyX0_ok : ∀ k, k < 4 → parseFieldDescriptor (TX0 k).2.2.1 = some (tyX0 k) := by decide +kernel
abbrev cX0_init : ByteArray := prog_2_method_1_code
def yX0_init : MethodName := ⟨RX0, "<init>", "()V"⟩
abbrev cX0_append : ByteArray := prog_2_method_2_code
def yX0_append : MethodName := ⟨RX0, "append", "(IIII)I"⟩
abbrev cX0_remove : ByteArray := prog_2_method_3_code
def yX0_remove : MethodName := ⟨RX0, "remove", "(I)I"⟩
abbrev cX0_makeFresh : ByteArray := prog_2_method_4_code
def yX0_makeFresh : MethodName := ⟨RX0, "makeFresh", "(I)V"⟩
abbrev cX0_isStale : ByteArray := prog_2_method_5_code
def yX0_isStale : MethodName := ⟨RX0, "isStale", "(I)Z"⟩
abbrev cX0_renew : ByteArray := prog_2_method_6_code
def yX0_renew : MethodName := ⟨RX0, "renew", "()I"⟩
abbrev cX0_copyFrom : ByteArray := prog_2_method_7_code
def yX0_copyFrom : MethodName := ⟨RX0, "copyFrom", "(LBlockTruths$Block;)V"⟩
def RX1 : String := "BlockTruths$Question"
def TX1 : u_T := fun k => match k with
  | 0 => ("BlockTruths$Question", "size", "I", false)
  | 1 => ("BlockTruths$Question", "signs", "[I", true)
  | 2 => ("BlockTruths$Question", "roles", "[I", true)
  | 3 => ("BlockTruths$Question", "seconds", "[I", true)
  | 4 => ("BlockTruths$Question", "numbers", "[I", true)
  | 5 => ("BlockTruths$Question", "ends", "[I", true)
  | 6 => ("BlockTruths$Question", "awaited", "[I", true)
  | 7 => ("BlockTruths$Question", "depth", "I", false)
  | _ => ("BlockTruths$Question", "wrongPlace", "I", false)
def tyX1 : Nat → FieldType := fun k => match k with
  | 0 => .int
  | 1 => .array .int
  | 2 => .array .int
  | 3 => .array .int
  | 4 => .array .int
  | 5 => .array .int
  | 6 => .array .int
  | 7 => .int
  | _ => .int
abbrev wsX10 : List Cond := u_ws RX1 TX1 9
theorem nmX1 : ∀ a, a < 9 → ∀ b, b < 9 → a ≠ b → (TX1 a).2.1 ≠ (TX1 b).2.1 := by decide +kernel
theorem tyX1_ok : ∀ k, k < 9 → parseFieldDescriptor (TX1 k).2.2.1 = some (tyX1 k) := by decide +kernel
abbrev cX1_init : ByteArray := prog_3_method_1_code
def yX1_init : MethodName := ⟨RX1, "<init>", "()V"⟩
abbrev cX1_clear : ByteArray := prog_3_method_2_code
def yX1_clear : MethodName := ⟨RX1, "clear", "()V"⟩
abbrev cX1_append : ByteArray := prog_3_method_3_code
def yX1_append : MethodName := ⟨RX1, "append", "(I)I"⟩
abbrev cX1_faultPlace : ByteArray := prog_3_method_4_code
def yX1_faultPlace : MethodName := ⟨RX1, "faultPlace", "()I"⟩
abbrev cX1_isFaulty : ByteArray := prog_3_method_5_code
def yX1_isFaulty : MethodName := ⟨RX1, "isFaulty", "()Z"⟩
abbrev cX1_await : ByteArray := prog_3_method_6_code
def yX1_await : MethodName := ⟨RX1, "await", "(I)V"⟩
abbrev cX1_canStand : ByteArray := prog_3_method_7_code
def yX1_canStand : MethodName := ⟨RX1, "canStand", "(I)Z"⟩
abbrev cX1_beginsTruth : ByteArray := prog_3_method_8_code
def yX1_beginsTruth : MethodName := ⟨RX1, "beginsTruth", "(I)Z"⟩
abbrev cX1_beginsTerm : ByteArray := prog_3_method_9_code
def yX1_beginsTerm : MethodName := ⟨RX1, "beginsTerm", "(I)Z"⟩
abbrev cX1_findParts : ByteArray := prog_3_method_10_code
def yX1_findParts : MethodName := ⟨RX1, "findParts", "()V"⟩
abbrev cX1_numberAt : ByteArray := prog_3_method_11_code
def yX1_numberAt : MethodName := ⟨RX1, "numberAt", "(I)I"⟩
abbrev cX1_figureAt : ByteArray := prog_3_method_12_code
def yX1_figureAt : MethodName := ⟨RX1, "figureAt", "(I)I"⟩
abbrev cX1_onlyColumn : ByteArray := prog_3_method_13_code
def yX1_onlyColumn : MethodName := ⟨RX1, "onlyColumn", "()I"⟩
def RX2 : String := "BlockTruths$RangeJudge"
def TX2 : u_T := fun k => match k with
  | 0 => ("BlockTruths$RangeJudge", "kinds", "[I", true)
  | 1 => ("BlockTruths$RangeJudge", "lows", "[I", true)
  | 2 => ("BlockTruths$RangeJudge", "highs", "[I", true)
  | _ => ("BlockTruths$RangeJudge", "question", "LBlockTruths$Question;", true)
def tyX2 : Nat → FieldType := fun k => match k with
  | 0 => .array .int
  | 1 => .array .int
  | 2 => .array .int
  | _ => .object "BlockTruths$Question"
abbrev wsX20 : List Cond := u_ws RX2 TX2 4
theorem nmX2 : ∀ a, a < 4 → ∀ b, b < 4 → a ≠ b → (TX2 a).2.1 ≠ (TX2 b).2.1 := by decide +kernel
theorem tyX2_ok : ∀ k, k < 4 → parseFieldDescriptor (TX2 k).2.2.1 = some (tyX2 k) := by decide +kernel
abbrev cX2_init : ByteArray := prog_4_method_1_code
def yX2_init : MethodName := ⟨RX2, "<init>", "(LBlockTruths$Question;)V"⟩
abbrev cX2_judge : ByteArray := prog_4_method_2_code
def yX2_judge : MethodName := ⟨RX2, "judge", "(LBlockTruths$Block;)V"⟩
abbrev cX2_chancesAt : ByteArray := prog_4_method_3_code
def yX2_chancesAt : MethodName := ⟨RX2, "chancesAt", "(ILBlockTruths$Block;)I"⟩
abbrev cX2_missingChances : ByteArray := prog_4_method_4_code
def yX2_missingChances : MethodName := ⟨RX2, "missingChances", "(ILBlockTruths$Block;)I"⟩
abbrev cX2_comparedChances : ByteArray := prog_4_method_5_code
def yX2_comparedChances : MethodName := ⟨RX2, "comparedChances", "(III)I"⟩
abbrev cX2_notChances : ByteArray := prog_4_method_6_code
def yX2_notChances : MethodName := ⟨RX2, "notChances", "(I)I"⟩
abbrev cX2_joinedChances : ByteArray := prog_4_method_7_code
def yX2_joinedChances : MethodName := ⟨RX2, "joinedChances", "(III)I"⟩
abbrev cX2_kindAt : ByteArray := prog_4_method_8_code
def yX2_kindAt : MethodName := ⟨RX2, "kindAt", "(ILBlockTruths$Block;)I"⟩
abbrev cX2_findBounds : ByteArray := prog_4_method_9_code
def yX2_findBounds : MethodName := ⟨RX2, "findBounds", "(ILBlockTruths$Block;)V"⟩
abbrev cX2_sumBounds : ByteArray := prog_4_method_10_code
def yX2_sumBounds : MethodName := ⟨RX2, "sumBounds", "(III)V"⟩
abbrev cX2_productBounds : ByteArray := prog_4_method_11_code
def yX2_productBounds : MethodName := ⟨RX2, "productBounds", "(II)V"⟩
abbrev cX2_byteBounds : ByteArray := prog_4_method_12_code
def yX2_byteBounds : MethodName := ⟨RX2, "byteBounds", "(III)V"⟩
abbrev cX2_leftOverBounds : ByteArray := prog_4_method_13_code
def yX2_leftOverBounds : MethodName := ⟨RX2, "leftOverBounds", "(IIII)V"⟩
abbrev cX2_setBounds : ByteArray := prog_4_method_14_code
def yX2_setBounds : MethodName := ⟨RX2, "setBounds", "(III)V"⟩
def RX3 : String := "BlockTruths$RowJudge"
def TX3 : u_T := fun k => match k with
  | 0 => ("BlockTruths$RowJudge", "question", "LBlockTruths$Question;", true)
  | _ => ("BlockTruths$RowJudge", "values", "[I", true)
def tyX3 : Nat → FieldType := fun k => match k with
  | 0 => .object "BlockTruths$Question"
  | _ => .array .int
abbrev wsX30 : List Cond := u_ws RX3 TX3 2
theorem nmX3 : ∀ a, a < 2 → ∀ b, b < 2 → a ≠ b → (TX3 a).2.1 ≠ (TX3 b).2.1 := by decide +kernel
theorem tyX3_ok : ∀ k, k < 2 → parseFieldDescriptor (TX3 k).2.2.1 = some (tyX3 k) := by decide +kernel
abbrev cX3_init : ByteArray := prog_5_method_1_code
def yX3_init : MethodName := ⟨RX3, "<init>", "(LBlockTruths$Question;)V"⟩
abbrev cX3_judge : ByteArray := prog_5_method_2_code
def yX3_judge : MethodName := ⟨RX3, "judge", "([I)I"⟩
abbrev cX3_truthAt : ByteArray := prog_5_method_3_code
def yX3_truthAt : MethodName := ⟨RX3, "truthAt", "(I[I)I"⟩
abbrev cX3_termAt : ByteArray := prog_5_method_4_code
def yX3_termAt : MethodName := ⟨RX3, "termAt", "(I[I)I"⟩
def RX4 : String := "BlockTruths$RowKeys"
def TX4 : u_T := fun k => match k with
  | 0 => ("BlockTruths$RowKeys", "size", "I", false)
  | _ => ("BlockTruths$RowKeys", "keys", "[J", true)
def tyX4 : Nat → FieldType := fun k => match k with
  | 0 => .int
  | _ => .array .long
abbrev wsX40 : List Cond := u_ws RX4 TX4 2
theorem nmX4 : ∀ a, a < 2 → ∀ b, b < 2 → a ≠ b → (TX4 a).2.1 ≠ (TX4 b).2.1 := by decide +kernel
theorem tyX4_ok : ∀ k, k < 2 → parseFieldDescriptor (TX4 k).2.2.1 = some (tyX4 k) := by decide +kernel
abbrev cX4_init : ByteArray := prog_6_method_1_code
def yX4_init : MethodName := ⟨RX4, "<init>", "()V"⟩
abbrev cX4_clear : ByteArray := prog_6_method_2_code
def yX4_clear : MethodName := ⟨RX4, "clear", "()V"⟩
abbrev cX4_note : ByteArray := prog_6_method_3_code
def yX4_note : MethodName := ⟨RX4, "note", "([I)V"⟩
def RX5 : String := "BlockTruths$Store"
def TX5 : u_T := fun k => match k with
  | _ => ("BlockTruths$Store", "blocks", "[LBlockTruths$Block;", true)
def tyX5 : Nat → FieldType := fun k => match k with
  | _ => .array (.object "BlockTruths$Block")
abbrev wsX50 : List Cond := u_ws RX5 TX5 1
theorem nmX5 : ∀ a, a < 1 → ∀ b, b < 1 → a ≠ b → (TX5 a).2.1 ≠ (TX5 b).2.1 := by decide +kernel
theorem tyX5_ok : ∀ k, k < 1 → parseFieldDescriptor (TX5 k).2.2.1 = some (tyX5 k) := by decide +kernel
abbrev cX5_init : ByteArray := prog_7_method_1_code
def yX5_init : MethodName := ⟨RX5, "<init>", "()V"⟩
abbrev cX5_countRows : ByteArray := prog_7_method_2_code
def yX5_countRows : MethodName := ⟨RX5, "countRows", "()I"⟩
abbrev cX5_copyFrom : ByteArray := prog_7_method_3_code
def yX5_copyFrom : MethodName := ⟨RX5, "copyFrom", "(LBlockTruths$Store;)V"⟩
def RX6 : String := "BlockTruths$Summary"
def TX6 : u_T := fun k => match k with
  | 0 => ("BlockTruths$Summary", "least", "I", false)
  | 1 => ("BlockTruths$Summary", "greatest", "I", false)
  | 2 => ("BlockTruths$Summary", "missing", "I", false)
  | 3 => ("BlockTruths$Summary", "size", "I", false)
  | 4 => ("BlockTruths$Summary", "lost", "Z", false)
  | 5 => ("BlockTruths$Summary", "numbers", "[I", true)
  | _ => ("BlockTruths$Summary", "counts", "[I", true)
def tyX6 : Nat → FieldType := fun k => match k with
  | 0 => .int
  | 1 => .int
  | 2 => .int
  | 3 => .int
  | 4 => .boolean
  | 5 => .array .int
  | _ => .array .int
abbrev wsX60 : List Cond := u_ws RX6 TX6 7
theorem nmX6 : ∀ a, a < 7 → ∀ b, b < 7 → a ≠ b → (TX6 a).2.1 ≠ (TX6 b).2.1 := by decide +kernel
theorem tyX6_ok : ∀ k, k < 7 → parseFieldDescriptor (TX6 k).2.2.1 = some (tyX6 k) := by decide +kernel
abbrev cX6_init : ByteArray := prog_8_method_1_code
def yX6_init : MethodName := ⟨RX6, "<init>", "()V"⟩
abbrev cX6_clear : ByteArray := prog_8_method_2_code
def yX6_clear : MethodName := ⟨RX6, "clear", "()V"⟩
abbrev cX6_come : ByteArray := prog_8_method_3_code
def yX6_come : MethodName := ⟨RX6, "come", "(I)V"⟩
abbrev cX6_enlist : ByteArray := prog_8_method_4_code
def yX6_enlist : MethodName := ⟨RX6, "enlist", "(I)V"⟩
abbrev cX6_leave : ByteArray := prog_8_method_5_code
def yX6_leave : MethodName := ⟨RX6, "leave", "(I)V"⟩
abbrev cX6_placeOf : ByteArray := prog_8_method_6_code
def yX6_placeOf : MethodName := ⟨RX6, "placeOf", "(I)I"⟩
abbrev cX6_differsFrom : ByteArray := prog_8_method_7_code
def yX6_differsFrom : MethodName := ⟨RX6, "differsFrom", "(LBlockTruths$Summary;)Z"⟩
abbrev cX6_copyFrom : ByteArray := prog_8_method_8_code
def yX6_copyFrom : MethodName := ⟨RX6, "copyFrom", "(LBlockTruths$Summary;)V"⟩
def RX7 : String := "BlockTruths$Tally"
def TX7 : u_T := fun k => match k with
  | 0 => ("BlockTruths$Tally", "least", "I", false)
  | 1 => ("BlockTruths$Tally", "greatest", "I", false)
  | 2 => ("BlockTruths$Tally", "sum", "I", false)
  | _ => ("BlockTruths$Tally", "missing", "I", false)
def tyX7 : Nat → FieldType := fun k => match k with
  | 0 => .int
  | 1 => .int
  | 2 => .int
  | _ => .int
abbrev wsX70 : List Cond := u_ws RX7 TX7 4
theorem nmX7 : ∀ a, a < 4 → ∀ b, b < 4 → a ≠ b → (TX7 a).2.1 ≠ (TX7 b).2.1 := by decide +kernel
theorem tyX7_ok : ∀ k, k < 4 → parseFieldDescriptor (TX7 k).2.2.1 = some (tyX7 k) := by decide +kernel
abbrev cX7_init : ByteArray := prog_9_method_1_code
def yX7_init : MethodName := ⟨RX7, "<init>", "()V"⟩
abbrev cX7_clear : ByteArray := prog_9_method_2_code
def yX7_clear : MethodName := ⟨RX7, "clear", "()V"⟩
abbrev cX7_note : ByteArray := prog_9_method_3_code
def yX7_note : MethodName := ⟨RX7, "note", "(I)V"⟩
def RX8 : String := "BlockTruths"
def TX8 : u_T := fun k => match k with
  | 0 => ("BlockTruths", "store", "LBlockTruths$Store;", true)
  | 1 => ("BlockTruths", "images", "[LBlockTruths$Store;", true)
  | 2 => ("BlockTruths", "question", "LBlockTruths$Question;", true)
  | 3 => ("BlockTruths", "rowJudge", "LBlockTruths$RowJudge;", true)
  | 4 => ("BlockTruths", "rangeJudge", "LBlockTruths$RangeJudge;", true)
  | 5 => ("BlockTruths", "listedRow", "[I", true)
  | 6 => ("BlockTruths", "chances", "[I", true)
  | 7 => ("BlockTruths", "keys", "LBlockTruths$RowKeys;", true)
  | _ => ("BlockTruths", "tally", "LBlockTruths$Tally;", true)
def tyX8 : Nat → FieldType := fun k => match k with
  | 0 => .object "BlockTruths$Store"
  | 1 => .array (.object "BlockTruths$Store")
  | 2 => .object "BlockTruths$Question"
  | 3 => .object "BlockTruths$RowJudge"
  | 4 => .object "BlockTruths$RangeJudge"
  | 5 => .array .int
  | 6 => .array .int
  | 7 => .object "BlockTruths$RowKeys"
  | _ => .object "BlockTruths$Tally"
abbrev wsX80 : List Cond := u_ws RX8 TX8 9
theorem nmX8 : ∀ a, a < 9 → ∀ b, b < 9 → a ≠ b → (TX8 a).2.1 ≠ (TX8 b).2.1 := by decide +kernel
theorem tyX8_ok : ∀ k, k < 9 → parseFieldDescriptor (TX8 k).2.2.1 = some (tyX8 k) := by decide +kernel
abbrev cX8_init : ByteArray := prog_1_method_1_code
def yX8_init : MethodName := ⟨RX8, "<init>", "()V"⟩
abbrev cX8_add : ByteArray := prog_1_method_2_code
def yX8_add : MethodName := ⟨RX8, "add", "(IIIII)I"⟩
abbrev cX8_drop : ByteArray := prog_1_method_3_code
def yX8_drop : MethodName := ⟨RX8, "drop", "(II)I"⟩
abbrev cX8_anew : ByteArray := prog_1_method_4_code
def yX8_anew : MethodName := ⟨RX8, "anew", "(I)I"⟩
abbrev cX8_cell : ByteArray := prog_1_method_5_code
def yX8_cell : MethodName := ⟨RX8, "cell", "(III)I"⟩
abbrev cX8_summary : ByteArray := prog_1_method_6_code
def yX8_summary : MethodName := ⟨RX8, "summary", "(III)I"⟩
abbrev cX8_listed : ByteArray := prog_1_method_7_code
def yX8_listed : MethodName := ⟨RX8, "listed", "(IIII)I"⟩
abbrev cX8_say : ByteArray := prog_1_method_8_code
def yX8_say : MethodName := ⟨RX8, "say", "(I)I"⟩
abbrev cX8_wipe : ByteArray := prog_1_method_9_code
def yX8_wipe : MethodName := ⟨RX8, "wipe", "()I"⟩
abbrev cX8_fault : ByteArray := prog_1_method_10_code
def yX8_fault : MethodName := ⟨RX8, "fault", "()I"⟩
abbrev cX8_truth : ByteArray := prog_1_method_11_code
def yX8_truth : MethodName := ⟨RX8, "truth", "(II)I"⟩
abbrev cX8_range : ByteArray := prog_1_method_12_code
def yX8_range : MethodName := ⟨RX8, "range", "(III)I"⟩
abbrev cX8_may : ByteArray := prog_1_method_13_code
def yX8_may : MethodName := ⟨RX8, "may", "(II)I"⟩
abbrev cX8_verdict : ByteArray := prog_1_method_14_code
def yX8_verdict : MethodName := ⟨RX8, "verdict", "(II)I"⟩
abbrev cX8_answer : ByteArray := prog_1_method_15_code
def yX8_answer : MethodName := ⟨RX8, "answer", "(I)I"⟩
abbrev cX8_total : ByteArray := prog_1_method_16_code
def yX8_total : MethodName := ⟨RX8, "total", "(II)I"⟩
abbrev cX8_image : ByteArray := prog_1_method_17_code
def yX8_image : MethodName := ⟨RX8, "image", "(I)I"⟩
abbrev cX8_restore : ByteArray := prog_1_method_18_code
def yX8_restore : MethodName := ⟨RX8, "restore", "(I)I"⟩
abbrev cX8_told : ByteArray := prog_1_method_19_code
def yX8_told : MethodName := ⟨RX8, "told", "(I)I"⟩
abbrev cX8_isRow : ByteArray := prog_1_method_20_code
def yX8_isRow : MethodName := ⟨RX8, "isRow", "(II)Z"⟩
abbrev cX8_isPlace : ByteArray := prog_1_method_21_code
def yX8_isPlace : MethodName := ⟨RX8, "isPlace", "(I)Z"⟩
abbrev cX8_isBlock : ByteArray := prog_1_method_22_code
def yX8_isBlock : MethodName := ⟨RX8, "isBlock", "(I)Z"⟩
abbrev cX8_isColumn : ByteArray := prog_1_method_23_code
def yX8_isColumn : MethodName := ⟨RX8, "isColumn", "(I)Z"⟩
abbrev cX8_isImage : ByteArray := prog_1_method_24_code
def yX8_isImage : MethodName := ⟨RX8, "isImage", "(I)Z"⟩
abbrev cX8_isEntry : ByteArray := prog_1_method_25_code
def yX8_isEntry : MethodName := ⟨RX8, "isEntry", "(I)Z"⟩
abbrev cX8_chancesIn : ByteArray := prog_1_method_26_code
def yX8_chancesIn : MethodName := ⟨RX8, "chancesIn", "(LBlockTruths$Block;)I"⟩
abbrev cX8_chancesByList : ByteArray := prog_1_method_27_code
def yX8_chancesByList : MethodName := ⟨RX8, "chancesByList", "(LBlockTruths$Summary;I)I"⟩
abbrev cX8_weighBlocks : ByteArray := prog_1_method_28_code
def yX8_weighBlocks : MethodName := ⟨RX8, "weighBlocks", "()V"⟩
abbrev cX8_rulingOf : ByteArray := prog_1_method_29_code
def yX8_rulingOf : MethodName := ⟨RX8, "rulingOf", "(I)I"⟩
abbrev cX8_blocksRuled : ByteArray := prog_1_method_30_code
def yX8_blocksRuled : MethodName := ⟨RX8, "blocksRuled", "(I)I"⟩
abbrev cX8_countScannedRows : ByteArray := prog_1_method_31_code
def yX8_countScannedRows : MethodName := ⟨RX8, "countScannedRows", "()I"⟩
abbrev cX8_countRowsToRead : ByteArray := prog_1_method_32_code
def yX8_countRowsToRead : MethodName := ⟨RX8, "countRowsToRead", "(I)I"⟩
abbrev cX8_isMatch : ByteArray := prog_1_method_33_code
def yX8_isMatch : MethodName := ⟨RX8, "isMatch", "([I)Z"⟩
abbrev cX8_countMatches : ByteArray := prog_1_method_34_code
def yX8_countMatches : MethodName := ⟨RX8, "countMatches", "()I"⟩
abbrev cX8_countUnlikeMatches : ByteArray := prog_1_method_35_code
def yX8_countUnlikeMatches : MethodName := ⟨RX8, "countUnlikeMatches", "()I"⟩
abbrev cX8_countUnlike : ByteArray := prog_1_method_36_code
def yX8_countUnlike : MethodName := ⟨RX8, "countUnlike", "(LBlockTruths$Block;)I"⟩
abbrev cX8_tallyMatches : ByteArray := prog_1_method_37_code
def yX8_tallyMatches : MethodName := ⟨RX8, "tallyMatches", "(I)V"⟩
abbrev cX8_isLetter : ByteArray := prog_1_method_38_code
def yX8_isLetter : MethodName := ⟨RX8, "isLetter", "(I)Z"⟩
abbrev cX8_isFigure : ByteArray := prog_1_method_39_code
def yX8_isFigure : MethodName := ⟨RX8, "isFigure", "(I)Z"⟩
abbrev cX8_isSum : ByteArray := prog_1_method_40_code
def yX8_isSum : MethodName := ⟨RX8, "isSum", "(I)Z"⟩
abbrev cX8_hasSecond : ByteArray := prog_1_method_41_code
def yX8_hasSecond : MethodName := ⟨RX8, "hasSecond", "(I)Z"⟩
abbrev cX8_at : ByteArray := prog_1_method_42_code
def yX8_at : MethodName := ⟨RX8, "at", "([II)I"⟩
abbrev cX8_sumOf : ByteArray := prog_1_method_43_code
def yX8_sumOf : MethodName := ⟨RX8, "sumOf", "(III)I"⟩
abbrev cX8_bothOf : ByteArray := prog_1_method_44_code
def yX8_bothOf : MethodName := ⟨RX8, "bothOf", "(II)I"⟩
abbrev cX8_eitherOf : ByteArray := prog_1_method_45_code
def yX8_eitherOf : MethodName := ⟨RX8, "eitherOf", "(II)I"⟩
abbrev cX8_notOf : ByteArray := prog_1_method_46_code
def yX8_notOf : MethodName := ⟨RX8, "notOf", "(I)I"⟩
abbrev cX8_chanceOf : ByteArray := prog_1_method_47_code
def yX8_chanceOf : MethodName := ⟨RX8, "chanceOf", "(I)I"⟩
def RX9 : String := "BlockTruthsModel"
def TX9 : u_T := fun k => match k with
  | 0 => ("BlockTruthsModel", "rows", "[I", true)
  | 1 => ("BlockTruthsModel", "many", "[I", true)
  | 2 => ("BlockTruthsModel", "known", "[I", true)
  | 3 => ("BlockTruthsModel", "fresh", "[I", true)
  | 4 => ("BlockTruthsModel", "signs", "I", false)
  | 5 => ("BlockTruthsModel", "pad", "[I", true)
  | 6 => ("BlockTruthsModel", "kind", "[I", true)
  | 7 => ("BlockTruthsModel", "first", "[I", true)
  | 8 => ("BlockTruthsModel", "second", "[I", true)
  | 9 => ("BlockTruthsModel", "end", "[I", true)
  | 10 => ("BlockTruthsModel", "must", "[I", true)
  | 11 => ("BlockTruthsModel", "worth", "[I", true)
  | 12 => ("BlockTruthsModel", "cells", "[I", true)
  | 13 => ("BlockTruthsModel", "maybe", "[I", true)
  | 14 => ("BlockTruthsModel", "low", "[I", true)
  | 15 => ("BlockTruthsModel", "high", "[I", true)
  | 16 => ("BlockTruthsModel", "image", "[I", true)
  | _ => ("BlockTruthsModel", "isKept", "[Z", true)
def tyX9 : Nat → FieldType := fun k => match k with
  | 0 => .array .int
  | 1 => .array .int
  | 2 => .array .int
  | 3 => .array .int
  | 4 => .int
  | 5 => .array .int
  | 6 => .array .int
  | 7 => .array .int
  | 8 => .array .int
  | 9 => .array .int
  | 10 => .array .int
  | 11 => .array .int
  | 12 => .array .int
  | 13 => .array .int
  | 14 => .array .int
  | 15 => .array .int
  | 16 => .array .int
  | _ => .array .boolean
abbrev wsX90 : List Cond := u_ws RX9 TX9 18
theorem nmX9 : ∀ a, a < 18 → ∀ b, b < 18 → a ≠ b → (TX9 a).2.1 ≠ (TX9 b).2.1 := by decide +kernel
theorem tyX9_ok : ∀ k, k < 18 → parseFieldDescriptor (TX9 k).2.2.1 = some (tyX9 k) := by decide +kernel
abbrev cX9_init : ByteArray := prog_11_method_1_code
def yX9_init : MethodName := ⟨RX9, "<init>", "()V"⟩
abbrev cX9_in : ByteArray := prog_11_method_2_code
def yX9_in : MethodName := ⟨RX9, "in", "(III)Z"⟩
abbrev cX9_isBlock : ByteArray := prog_11_method_3_code
def yX9_isBlock : MethodName := ⟨RX9, "isBlock", "(I)Z"⟩
abbrev cX9_isColumn : ByteArray := prog_11_method_4_code
def yX9_isColumn : MethodName := ⟨RX9, "isColumn", "(I)Z"⟩
abbrev cX9_isRow : ByteArray := prog_11_method_5_code
def yX9_isRow : MethodName := ⟨RX9, "isRow", "(II)Z"⟩
abbrev cX9_at : ByteArray := prog_11_method_6_code
def yX9_at : MethodName := ⟨RX9, "at", "(III)I"⟩
abbrev cX9_clear : ByteArray := prog_11_method_7_code
def yX9_clear : MethodName := ⟨RX9, "clear", "(I)V"⟩
abbrev cX9_placeOf : ByteArray := prog_11_method_8_code
def yX9_placeOf : MethodName := ⟨RX9, "placeOf", "(II)I"⟩
abbrev cX9_come : ByteArray := prog_11_method_9_code
def yX9_come : MethodName := ⟨RX9, "come", "(II)V"⟩
abbrev cX9_add : ByteArray := prog_11_method_10_code
def yX9_add : MethodName := ⟨RX9, "add", "(IIIII)I"⟩
abbrev cX9_drop : ByteArray := prog_11_method_11_code
def yX9_drop : MethodName := ⟨RX9, "drop", "(II)I"⟩
abbrev cX9_makeAnew : ByteArray := prog_11_method_12_code
def yX9_makeAnew : MethodName := ⟨RX9, "makeAnew", "(II)V"⟩
abbrev cX9_isStale : ByteArray := prog_11_method_13_code
def yX9_isStale : MethodName := ⟨RX9, "isStale", "(II)Z"⟩
abbrev cX9_anew : ByteArray := prog_11_method_14_code
def yX9_anew : MethodName := ⟨RX9, "anew", "(I)I"⟩
abbrev cX9_cell : ByteArray := prog_11_method_15_code
def yX9_cell : MethodName := ⟨RX9, "cell", "(III)I"⟩
abbrev cX9_summary : ByteArray := prog_11_method_16_code
def yX9_summary : MethodName := ⟨RX9, "summary", "(III)I"⟩
abbrev cX9_listed : ByteArray := prog_11_method_17_code
def yX9_listed : MethodName := ⟨RX9, "listed", "(IIII)I"⟩
abbrev cX9_say : ByteArray := prog_11_method_18_code
def yX9_say : MethodName := ⟨RX9, "say", "(I)I"⟩
abbrev cX9_wipe : ByteArray := prog_11_method_19_code
def yX9_wipe : MethodName := ⟨RX9, "wipe", "()I"⟩
abbrev cX9_termOf : ByteArray := prog_11_method_20_code
def yX9_termOf : MethodName := ⟨RX9, "termOf", "(I)I"⟩
abbrev cX9_truthOf : ByteArray := prog_11_method_21_code
def yX9_truthOf : MethodName := ⟨RX9, "truthOf", "(I)I"⟩
abbrev cX9_inner : ByteArray := prog_11_method_22_code
def yX9_inner : MethodName := ⟨RX9, "inner", "(I)I"⟩
abbrev cX9_read : ByteArray := prog_11_method_23_code
def yX9_read : MethodName := ⟨RX9, "read", "()I"⟩
abbrev cX9_fault : ByteArray := prog_11_method_24_code
def yX9_fault : MethodName := ⟨RX9, "fault", "()I"⟩
abbrev cX9_isTerm : ByteArray := prog_11_method_25_code
def yX9_isTerm : MethodName := ⟨RX9, "isTerm", "(I)Z"⟩
abbrev cX9_cut : ByteArray := prog_11_method_26_code
def yX9_cut : MethodName := ⟨RX9, "cut", "(J)I"⟩
abbrev cX9_byteOf : ByteArray := prog_11_method_27_code
def yX9_byteOf : MethodName := ⟨RX9, "byteOf", "(I)I"⟩
abbrev cX9_three : ByteArray := prog_11_method_28_code
def yX9_three : MethodName := ⟨RX9, "three", "(I)I"⟩
abbrev cX9_layRow : ByteArray := prog_11_method_29_code
def yX9_layRow : MethodName := ⟨RX9, "layRow", "()V"⟩
abbrev cX9_number : ByteArray := prog_11_method_30_code
def yX9_number : MethodName := ⟨RX9, "number", "(I)I"⟩
abbrev cX9_not : ByteArray := prog_11_method_31_code
def yX9_not : MethodName := ⟨RX9, "not", "(I)I"⟩
abbrev cX9_both : ByteArray := prog_11_method_32_code
def yX9_both : MethodName := ⟨RX9, "both", "(II)I"⟩
abbrev cX9_either : ByteArray := prog_11_method_33_code
def yX9_either : MethodName := ⟨RX9, "either", "(II)I"⟩
abbrev cX9_truthAt : ByteArray := prog_11_method_34_code
def yX9_truthAt : MethodName := ⟨RX9, "truthAt", "(I)I"⟩
abbrev cX9_truthOfRow : ByteArray := prog_11_method_35_code
def yX9_truthOfRow : MethodName := ⟨RX9, "truthOfRow", "(II)I"⟩
abbrev cX9_truth : ByteArray := prog_11_method_36_code
def yX9_truth : MethodName := ⟨RX9, "truth", "(II)I"⟩
abbrev cX9_layBlock : ByteArray := prog_11_method_37_code
def yX9_layBlock : MethodName := ⟨RX9, "layBlock", "(I)V"⟩
abbrev cX9_layRange : ByteArray := prog_11_method_38_code
def yX9_layRange : MethodName := ⟨RX9, "layRange", "(II)V"⟩
abbrev cX9_bit : ByteArray := prog_11_method_39_code
def yX9_bit : MethodName := ⟨RX9, "bit", "(I)I"⟩
abbrev cX9_mayAt : ByteArray := prog_11_method_40_code
def yX9_mayAt : MethodName := ⟨RX9, "mayAt", "(II)I"⟩
abbrev cX9_range : ByteArray := prog_11_method_41_code
def yX9_range : MethodName := ⟨RX9, "range", "(III)I"⟩
abbrev cX9_may : ByteArray := prog_11_method_42_code
def yX9_may : MethodName := ⟨RX9, "may", "(II)I"⟩
abbrev cX9_onlyColumn : ByteArray := prog_11_method_43_code
def yX9_onlyColumn : MethodName := ⟨RX9, "onlyColumn", "()I"⟩
abbrev cX9_mayOf : ByteArray := prog_11_method_44_code
def yX9_mayOf : MethodName := ⟨RX9, "mayOf", "(I)I"⟩
abbrev cX9_verdictOf : ByteArray := prog_11_method_45_code
def yX9_verdictOf : MethodName := ⟨RX9, "verdictOf", "(I)I"⟩
abbrev cX9_verdict : ByteArray := prog_11_method_46_code
def yX9_verdict : MethodName := ⟨RX9, "verdict", "(II)I"⟩
abbrev cX9_isLike : ByteArray := prog_11_method_47_code
def yX9_isLike : MethodName := ⟨RX9, "isLike", "(IIII)Z"⟩
abbrev cX9_answer : ByteArray := prog_11_method_48_code
def yX9_answer : MethodName := ⟨RX9, "answer", "(I)I"⟩
abbrev cX9_total : ByteArray := prog_11_method_49_code
def yX9_total : MethodName := ⟨RX9, "total", "(II)I"⟩
abbrev cX9_image : ByteArray := prog_11_method_50_code
def yX9_image : MethodName := ⟨RX9, "image", "(I)I"⟩
abbrev cX9_restore : ByteArray := prog_11_method_51_code
def yX9_restore : MethodName := ⟨RX9, "restore", "(I)I"⟩
abbrev cX9_told : ByteArray := prog_11_method_52_code
def yX9_told : MethodName := ⟨RX9, "told", "(I)I"⟩
def RJ9 : String := "java/lang/Math"
def TJ9 : u_T := fun k => match k with
  | _ => ("", "", "", false)
def tyJ9 : Nat → FieldType := fun k => match k with
  | _ => .int
abbrev wsJ90 : List Cond := u_ws RJ9 TJ9 0
theorem nmJ9 : ∀ a, a < 0 → ∀ b, b < 0 → a ≠ b → (TJ9 a).2.1 ≠ (TJ9 b).2.1 := by decide +kernel
theorem tyJ9_ok : ∀ k, k < 0 → parseFieldDescriptor (TJ9 k).2.2.1 = some (tyJ9 k) := by decide +kernel
abbrev cJ9_max_7cf53 : ByteArray := prog_12_method_65_code
def yJ9_max_7cf53 : MethodName := ⟨RJ9, "max", "(II)I"⟩
abbrev cJ9_min_7cf53 : ByteArray := prog_12_method_69_code
def yJ9_min_7cf53 : MethodName := ⟨RJ9, "min", "(II)I"⟩
def RJ10 : String := "java/lang/System"
def TJ10 : u_T := fun k => match k with
  | _ => ("", "", "", false)
def tyJ10 : Nat → FieldType := fun k => match k with
  | _ => .int
abbrev wsJ100 : List Cond := u_ws RJ10 TJ10 0
theorem nmJ10 : ∀ a, a < 0 → ∀ b, b < 0 → a ≠ b → (TJ10 a).2.1 ≠ (TJ10 b).2.1 := by decide +kernel
theorem tyJ10_ok : ∀ k, k < 0 → parseFieldDescriptor (TJ10 k).2.2.1 = some (tyJ10 k) := by decide +kernel
def RL : String := "BlockTruthsLaw"
abbrev cL_law : ByteArray := code
def yL_law : MethodName := ⟨RL, "law", "([I)Z"⟩
abbrev vwCl : List vw_C := [(RX0, TX0, 4), (RX1, TX1, 9), (RX2, TX2, 4), (RX3, TX3, 2), (RX4, TX4, 2), (RX5, TX5, 1), (RX6, TX6, 7), (RX7, TX7, 4), (RX8, TX8, 9), (RX9, TX9, 18)]
/-- one list of words for all methods: the tables that a callee may take -/
def WG : List Cond := lw_tbl.filter goodWord
theorem wg_in {w : Cond} {i : Nat} (h : lw_tbl[i]? = some w) (hg : goodWord w = true) : w ∈ WG := List.mem_filter.mpr ⟨List.mem_of_getElem? h, hg⟩
theorem wg_tbl {w : Cond} (h : w ∈ WG) : w ∈ lw_tbl := (List.mem_filter.mp h).1
theorem wg_good {w : Cond} (h : w ∈ WG) : (w.onTables && w.keeps) = true ∨ ∃ ty, w = .arrayClass ty := good_of_word (List.mem_filter.mp h).2
/-- a method's words: its own code, and WG -/
abbrev wW (y : MethodName) (c : ByteArray) (n : Nat) (r : Option FieldType) : List Cond := Cond.code y c n r :: WG
theorem wW_good {y y2 : MethodName} {c c2 : ByteArray} {n n2 : Nat} {r r2 : Option FieldType} (h : Cond.code y2 c2 n2 r2 ∈ WG) : GoodIn (wW y c n r) (wW y2 c2 n2 r2) := fun w hw => (List.mem_cons.mp hw).elim (fun e => by subst e; exact ⟨List.mem_cons_of_mem _ h, wg_good h⟩) (fun hw => ⟨List.mem_cons_of_mem _ hw, wg_good hw⟩)
theorem wW_wg {y : MethodName} {c : ByteArray} {n : Nat} {r : Option FieldType} {args : Array Value} {s : State} (h : ∀ w ∈ wW y c n r, w.before args s = true) : ∀ w ∈ WG, w.before args s = true := fun w hw => h w (List.mem_cons_of_mem _ hw)
theorem inX0 : ∀ w ∈ wsX00, w ∈ WG := by decide +kernel
theorem inX1 : ∀ w ∈ wsX10, w ∈ WG := by decide +kernel
theorem inX2 : ∀ w ∈ wsX20, w ∈ WG := by decide +kernel
theorem inX3 : ∀ w ∈ wsX30, w ∈ WG := by decide +kernel
theorem inX4 : ∀ w ∈ wsX40, w ∈ WG := by decide +kernel
theorem inX5 : ∀ w ∈ wsX50, w ∈ WG := by decide +kernel
theorem inX6 : ∀ w ∈ wsX60, w ∈ WG := by decide +kernel
theorem inX7 : ∀ w ∈ wsX70, w ∈ WG := by decide +kernel
theorem inX8 : ∀ w ∈ wsX80, w ∈ WG := by decide +kernel
theorem inX9 : ∀ w ∈ wsX90, w ∈ WG := by decide +kernel
end
section
theorem wt_0 {w : Cond} {i : Nat} (h : (k2_sels lw_privs)[i]? = some w) (hg : goodWord w = true) : w ∈ WG := List.mem_filter.mpr ⟨List.mem_append_left _ (List.mem_of_getElem? h), hg⟩
theorem wt_1 {w : Cond} {i : Nat} (h : tables_1_1[i]? = some w) (hg : goodWord w = true) : w ∈ WG := List.mem_filter.mpr ⟨List.mem_append_right _ (List.mem_append_left _ (List.mem_of_getElem? h)), hg⟩
theorem wt_2 {w : Cond} {i : Nat} (h : tables_1_2[i]? = some w) (hg : goodWord w = true) : w ∈ WG := List.mem_filter.mpr ⟨List.mem_append_right _ (List.mem_append_right _ (List.mem_append_left _ (List.mem_of_getElem? h))), hg⟩
theorem wt_3 {w : Cond} {i : Nat} (h : tables_1_3[i]? = some w) (hg : goodWord w = true) : w ∈ WG := List.mem_filter.mpr ⟨List.mem_append_right _ (List.mem_append_right _ (List.mem_append_right _ (List.mem_append_left _ (List.mem_of_getElem? h)))), hg⟩
theorem wt_4 {w : Cond} {i : Nat} (h : tables_1_4[i]? = some w) (hg : goodWord w = true) : w ∈ WG := List.mem_filter.mpr ⟨List.mem_append_right _ (List.mem_append_right _ (List.mem_append_right _ (List.mem_append_right _ (List.mem_of_getElem? h)))), hg⟩
theorem mw_0 : Cond.selects RX1 yX1_await yX1_await ∈ WG := wt_0 (i := 0) rfl rfl
theorem mw_1 : Cond.selects RX6 yX6_enlist yX6_enlist ∈ WG := wt_0 (i := 1) rfl rfl
theorem mw_2 : Cond.selects RX6 yX6_placeOf yX6_placeOf ∈ WG := wt_0 (i := 2) rfl rfl
theorem mw_3 : Cond.selects RX8 yX8_isRow yX8_isRow ∈ WG := wt_0 (i := 3) rfl rfl
theorem mw_4 : Cond.selects RX0 yX0_makeFresh yX0_makeFresh ∈ WG := wt_0 (i := 4) rfl rfl
theorem mw_5 : Cond.selects RX1 yX1_canStand yX1_canStand ∈ WG := wt_0 (i := 5) rfl rfl
theorem mw_6 : Cond.selects RX1 yX1_beginsTruth yX1_beginsTruth ∈ WG := wt_0 (i := 6) rfl rfl
theorem mw_7 : Cond.selects RX1 yX1_beginsTerm yX1_beginsTerm ∈ WG := wt_0 (i := 7) rfl rfl
theorem mw_8 : Cond.selects RX1 yX1_findParts yX1_findParts ∈ WG := wt_0 (i := 8) rfl rfl
theorem mw_9 : Cond.selects RX1 yX1_numberAt yX1_numberAt ∈ WG := wt_0 (i := 9) rfl rfl
theorem mw_10 : Cond.selects RX1 yX1_figureAt yX1_figureAt ∈ WG := wt_0 (i := 10) rfl rfl
theorem mw_11 : Cond.selects RX3 yX3_truthAt yX3_truthAt ∈ WG := wt_0 (i := 11) rfl rfl
theorem mw_12 : Cond.selects RX3 yX3_termAt yX3_termAt ∈ WG := wt_0 (i := 12) rfl rfl
theorem mw_13 : Cond.selects RX8 yX8_isPlace yX8_isPlace ∈ WG := wt_0 (i := 13) rfl rfl
theorem mw_14 : Cond.selects RX2 yX2_chancesAt yX2_chancesAt ∈ WG := wt_0 (i := 14) rfl rfl
theorem mw_15 : Cond.selects RX2 yX2_comparedChances yX2_comparedChances ∈ WG := wt_0 (i := 15) rfl rfl
theorem mw_16 : Cond.selects RX2 yX2_kindAt yX2_kindAt ∈ WG := wt_0 (i := 16) rfl rfl
theorem mw_17 : Cond.selects RX2 yX2_findBounds yX2_findBounds ∈ WG := wt_0 (i := 17) rfl rfl
theorem mw_18 : Cond.selects RX2 yX2_setBounds yX2_setBounds ∈ WG := wt_0 (i := 18) rfl rfl
theorem mw_19 : Cond.selects RX2 yX2_byteBounds yX2_byteBounds ∈ WG := wt_0 (i := 19) rfl rfl
theorem mw_20 : Cond.selects RX2 yX2_leftOverBounds yX2_leftOverBounds ∈ WG := wt_0 (i := 20) rfl rfl
theorem mw_21 : Cond.selects RX2 yX2_sumBounds yX2_sumBounds ∈ WG := wt_0 (i := 21) rfl rfl
theorem mw_22 : Cond.selects RX2 yX2_productBounds yX2_productBounds ∈ WG := wt_0 (i := 22) rfl rfl
theorem mw_23 : Cond.selects RX8 yX8_chancesIn yX8_chancesIn ∈ WG := wt_0 (i := 23) rfl rfl
theorem mw_24 : Cond.selects RX8 yX8_chancesByList yX8_chancesByList ∈ WG := wt_0 (i := 24) rfl rfl
theorem mw_25 : Cond.selects RX8 yX8_countMatches yX8_countMatches ∈ WG := wt_0 (i := 25) rfl rfl
theorem mw_26 : Cond.selects RX8 yX8_isMatch yX8_isMatch ∈ WG := wt_0 (i := 26) rfl rfl
theorem mw_27 : Cond.selects RX8 yX8_countUnlikeMatches yX8_countUnlikeMatches ∈ WG := wt_0 (i := 27) rfl rfl
theorem mw_28 : Cond.selects RX8 yX8_weighBlocks yX8_weighBlocks ∈ WG := wt_0 (i := 28) rfl rfl
theorem mw_29 : Cond.selects RX8 yX8_countScannedRows yX8_countScannedRows ∈ WG := wt_0 (i := 29) rfl rfl
theorem mw_30 : Cond.selects RX8 yX8_blocksRuled yX8_blocksRuled ∈ WG := wt_0 (i := 30) rfl rfl
theorem mw_31 : Cond.selects RX8 yX8_countRowsToRead yX8_countRowsToRead ∈ WG := wt_0 (i := 31) rfl rfl
theorem mw_32 : Cond.selects RX8 yX8_tallyMatches yX8_tallyMatches ∈ WG := wt_0 (i := 32) rfl rfl
theorem mw_33 : Cond.selects RX8 yX8_countUnlike yX8_countUnlike ∈ WG := wt_0 (i := 33) rfl rfl
theorem mw_34 : Cond.selects RX9 yX9_clear yX9_clear ∈ WG := wt_0 (i := 34) rfl rfl
theorem mw_35 : Cond.selects RX9 yX9_come yX9_come ∈ WG := wt_0 (i := 35) rfl rfl
theorem mw_36 : Cond.selects RX9 yX9_placeOf yX9_placeOf ∈ WG := wt_0 (i := 36) rfl rfl
theorem mw_37 : Cond.selects RX9 yX9_isRow yX9_isRow ∈ WG := wt_0 (i := 37) rfl rfl
theorem mw_38 : Cond.selects RX9 yX9_at yX9_at ∈ WG := wt_0 (i := 38) rfl rfl
theorem mw_39 : Cond.selects RX9 yX9_isStale yX9_isStale ∈ WG := wt_0 (i := 39) rfl rfl
theorem mw_40 : Cond.selects RX9 yX9_makeAnew yX9_makeAnew ∈ WG := wt_0 (i := 40) rfl rfl
theorem mw_41 : Cond.selects RX9 yX9_read yX9_read ∈ WG := wt_0 (i := 41) rfl rfl
theorem mw_42 : Cond.selects RX9 yX9_truthOfRow yX9_truthOfRow ∈ WG := wt_0 (i := 42) rfl rfl
theorem mw_43 : Cond.selects RX9 yX9_layRow yX9_layRow ∈ WG := wt_0 (i := 43) rfl rfl
theorem mw_44 : Cond.selects RX9 yX9_isTerm yX9_isTerm ∈ WG := wt_0 (i := 44) rfl rfl
theorem mw_45 : Cond.selects RX9 yX9_number yX9_number ∈ WG := wt_0 (i := 45) rfl rfl
theorem mw_46 : Cond.selects RX9 yX9_three yX9_three ∈ WG := wt_0 (i := 46) rfl rfl
theorem mw_47 : Cond.selects RX9 yX9_truthAt yX9_truthAt ∈ WG := wt_0 (i := 47) rfl rfl
theorem mw_48 : Cond.selects RX9 yX9_layBlock yX9_layBlock ∈ WG := wt_0 (i := 48) rfl rfl
theorem mw_49 : Cond.selects RX9 yX9_layRange yX9_layRange ∈ WG := wt_0 (i := 49) rfl rfl
theorem mw_50 : Cond.selects RX9 yX9_mayAt yX9_mayAt ∈ WG := wt_0 (i := 50) rfl rfl
theorem mw_51 : Cond.selects RX9 yX9_verdictOf yX9_verdictOf ∈ WG := wt_0 (i := 51) rfl rfl
theorem mw_52 : Cond.selects RX9 yX9_mayOf yX9_mayOf ∈ WG := wt_0 (i := 52) rfl rfl
theorem mw_53 : Cond.selects RX9 yX9_onlyColumn yX9_onlyColumn ∈ WG := wt_0 (i := 53) rfl rfl
theorem mw_54 : Cond.selects RX9 yX9_isLike yX9_isLike ∈ WG := wt_0 (i := 54) rfl rfl
theorem mw_55 : Cond.initialized RL ∈ WG := wt_1 (i := 0) rfl rfl
theorem mw_56 : Cond.initialized RX8 ∈ WG := wt_1 (i := 1) rfl rfl
theorem mw_57 : Cond.initialized RX5 ∈ WG := wt_1 (i := 2) rfl rfl
theorem mw_58 : Cond.initialized RX0 ∈ WG := wt_1 (i := 3) rfl rfl
theorem mw_59 : Cond.initialized RX6 ∈ WG := wt_1 (i := 4) rfl rfl
theorem mw_60 : Cond.initialized RX1 ∈ WG := wt_1 (i := 5) rfl rfl
theorem mw_61 : Cond.initialized RX3 ∈ WG := wt_1 (i := 6) rfl rfl
theorem mw_62 : Cond.initialized RX2 ∈ WG := wt_1 (i := 7) rfl rfl
theorem mw_63 : Cond.initialized RX4 ∈ WG := wt_1 (i := 8) rfl rfl
theorem mw_64 : Cond.initialized RX7 ∈ WG := wt_1 (i := 9) rfl rfl
theorem mw_65 : Cond.initialized RX9 ∈ WG := wt_1 (i := 10) rfl rfl
theorem mw_66 : Cond.initialized "java/lang/Math" ∈ WG := wt_1 (i := 11) rfl rfl
theorem mw_67 : Cond.initialized "java/lang/System" ∈ WG := wt_1 (i := 12) rfl rfl
theorem mw_68 : Cond.classLink RL 7 RX8 ∈ WG := wt_1 (i := 13) rfl rfl
theorem mw_69 : Cond.instantiable RX8 9 ∈ WG := wt_1 (i := 14) rfl rfl
theorem mw_70 : Cond.methodLink RL 9 yX8_init ∈ WG := wt_1 (i := 15) rfl rfl
theorem mw_71 : Cond.instanceMethod yX8_init ∈ WG := wt_1 (i := 16) rfl rfl
theorem mw_72 : Cond.code yX8_init cX8_init 1 none ∈ WG := wt_1 (i := 17) rfl rfl
theorem mw_73 : Cond.methodLink RX8 3 objectInit ∈ WG := wt_1 (i := 18) rfl rfl
theorem mw_74 : Cond.instanceMethod objectInit ∈ WG := wt_1 (i := 19) rfl rfl
theorem mw_75 : Cond.code objectInit ⟨#[0xb1]⟩ 1 none ∈ WG := wt_1 (i := 20) rfl rfl
theorem mw_76 : Cond.classLink RX8 9 RX5 ∈ WG := wt_1 (i := 21) rfl rfl
theorem mw_77 : Cond.instantiable RX5 1 ∈ WG := wt_1 (i := 22) rfl rfl
theorem mw_78 : Cond.methodLink RX8 11 yX5_init ∈ WG := wt_1 (i := 23) rfl rfl
theorem mw_79 : Cond.instanceMethod yX5_init ∈ WG := wt_1 (i := 24) rfl rfl
theorem mw_80 : Cond.code yX5_init cX5_init 2 none ∈ WG := wt_1 (i := 25) rfl rfl
theorem mw_81 : Cond.methodLink RX5 3 objectInit ∈ WG := wt_1 (i := 26) rfl rfl
theorem mw_82 : Cond.classLink RX5 9 RX0 ∈ WG := wt_1 (i := 27) rfl rfl
theorem mw_84 : Cond.instantiable RX0 4 ∈ WG := wt_1 (i := 29) rfl rfl
theorem mw_85 : Cond.methodLink RX5 17 yX0_init ∈ WG := wt_1 (i := 30) rfl rfl
theorem mw_86 : Cond.instanceMethod yX0_init ∈ WG := wt_1 (i := 31) rfl rfl
theorem mw_87 : Cond.code yX0_init cX0_init 2 none ∈ WG := wt_1 (i := 32) rfl rfl
theorem mw_88 : Cond.methodLink RX0 3 objectInit ∈ WG := wt_1 (i := 33) rfl rfl
theorem mw_89 : Cond.classLink RX0 9 "[[I" ∈ WG := wt_1 (i := 34) rfl rfl
theorem mw_91 : Cond.classLink RX0 16 RX6 ∈ WG := wt_1 (i := 36) rfl rfl
theorem mw_93 : Cond.instantiable RX6 7 ∈ WG := wt_1 (i := 38) rfl rfl
theorem mw_94 : Cond.methodLink RX0 22 yX6_init ∈ WG := wt_1 (i := 39) rfl rfl
theorem mw_95 : Cond.instanceMethod yX6_init ∈ WG := wt_1 (i := 40) rfl rfl
theorem mw_96 : Cond.code yX6_init cX6_init 1 none ∈ WG := wt_1 (i := 41) rfl rfl
theorem mw_97 : Cond.methodLink RX6 3 objectInit ∈ WG := wt_1 (i := 42) rfl rfl
theorem mw_98 : Cond.methodLink RX6 18 yX6_clear ∈ WG := wt_1 (i := 43) rfl rfl
theorem mw_99 : Cond.instanceMethod yX6_clear ∈ WG := wt_1 (i := 44) rfl rfl
theorem mw_100 : Cond.selects RX6 yX6_clear yX6_clear ∈ WG := wt_1 (i := 45) rfl rfl
theorem mw_101 : Cond.code yX6_clear cX6_clear 1 none ∈ WG := wt_1 (i := 46) rfl rfl
theorem mw_102 : Cond.constant RX6 21 (-2000000) ∈ WG := wt_1 (i := 47) rfl rfl
theorem mw_103 : Cond.fieldLink RX6 22 "BlockTruths$Summary" "least" "I" ∈ WG := wt_1 (i := 48) rfl rfl
theorem mw_104 : Cond.fieldLink RX8 105 "BlockTruths$Summary" "least" "I" ∈ WG := wt_1 (i := 49) rfl rfl
theorem mw_105 : Cond.fieldLink RX2 114 "BlockTruths$Summary" "least" "I" ∈ WG := wt_1 (i := 50) rfl rfl
theorem mw_106 : Cond.fieldLink RX6 26 "BlockTruths$Summary" "greatest" "I" ∈ WG := wt_1 (i := 51) rfl rfl
theorem mw_107 : Cond.fieldLink RX8 111 "BlockTruths$Summary" "greatest" "I" ∈ WG := wt_1 (i := 52) rfl rfl
theorem mw_108 : Cond.fieldLink RX2 117 "BlockTruths$Summary" "greatest" "I" ∈ WG := wt_1 (i := 53) rfl rfl
theorem mw_109 : Cond.fieldLink RX6 29 "BlockTruths$Summary" "missing" "I" ∈ WG := wt_1 (i := 54) rfl rfl
theorem mw_110 : Cond.fieldLink RX2 79 "BlockTruths$Summary" "missing" "I" ∈ WG := wt_1 (i := 55) rfl rfl
theorem mw_111 : Cond.fieldLink RX8 114 "BlockTruths$Summary" "missing" "I" ∈ WG := wt_1 (i := 56) rfl rfl
theorem mw_112 : Cond.fieldLink RX6 32 "BlockTruths$Summary" "size" "I" ∈ WG := wt_1 (i := 57) rfl rfl
theorem mw_113 : Cond.fieldLink RX8 122 "BlockTruths$Summary" "size" "I" ∈ WG := wt_1 (i := 58) rfl rfl
theorem mw_114 : Cond.fieldLink RX6 35 "BlockTruths$Summary" "lost" "Z" ∈ WG := wt_1 (i := 59) rfl rfl
theorem mw_115 : Cond.fieldLink RX8 117 "BlockTruths$Summary" "lost" "Z" ∈ WG := wt_1 (i := 60) rfl rfl
theorem mw_116 : Cond.fieldLink RX6 9 "BlockTruths$Summary" "numbers" "[I" ∈ WG := wt_1 (i := 61) rfl rfl
theorem mw_117 : Cond.fieldLink RX8 129 "BlockTruths$Summary" "numbers" "[I" ∈ WG := wt_1 (i := 62) rfl rfl
theorem mw_118 : Cond.fieldLink RX6 15 "BlockTruths$Summary" "counts" "[I" ∈ WG := wt_1 (i := 63) rfl rfl
theorem mw_119 : Cond.fieldLink RX8 132 "BlockTruths$Summary" "counts" "[I" ∈ WG := wt_1 (i := 64) rfl rfl
theorem mw_136 : Cond.fieldLink RX0 27 "BlockTruths$Block" "rows" "I" ∈ WG := wt_1 (i := 81) rfl rfl
theorem mw_137 : Cond.fieldLink RX5 18 "BlockTruths$Block" "rows" "I" ∈ WG := wt_1 (i := 82) rfl rfl
theorem mw_138 : Cond.fieldLink RX2 84 "BlockTruths$Block" "rows" "I" ∈ WG := wt_1 (i := 83) rfl rfl
theorem mw_139 : Cond.fieldLink RX8 156 "BlockTruths$Block" "rows" "I" ∈ WG := wt_1 (i := 84) rfl rfl
theorem mw_140 : Cond.fieldLink RX0 11 "BlockTruths$Block" "cells" "[[I" ∈ WG := wt_1 (i := 85) rfl rfl
theorem mw_141 : Cond.fieldLink RX8 97 "BlockTruths$Block" "cells" "[[I" ∈ WG := wt_1 (i := 86) rfl rfl
theorem mw_142 : Cond.fieldLink RX0 18 "BlockTruths$Block" "summaries" "[LBlockTruths$Summary;" ∈ WG := wt_1 (i := 87) rfl rfl
theorem mw_143 : Cond.fieldLink RX2 73 "BlockTruths$Block" "summaries" "[LBlockTruths$Summary;" ∈ WG := wt_1 (i := 88) rfl rfl
theorem mw_144 : Cond.fieldLink RX8 101 "BlockTruths$Block" "summaries" "[LBlockTruths$Summary;" ∈ WG := wt_1 (i := 89) rfl rfl
theorem mw_145 : Cond.fieldLink RX0 23 "BlockTruths$Block" "fresh" "LBlockTruths$Summary;" ∈ WG := wt_1 (i := 90) rfl rfl
theorem mw_155 : Cond.fieldLink RX5 11 "BlockTruths$Store" "blocks" "[LBlockTruths$Block;" ∈ WG := wt_1 (i := 100) rfl rfl
theorem mw_156 : Cond.fieldLink RX8 71 "BlockTruths$Store" "blocks" "[LBlockTruths$Block;" ∈ WG := wt_1 (i := 101) rfl rfl
theorem mw_161 : Cond.classLink RX8 20 RX1 ∈ WG := wt_1 (i := 106) rfl rfl
theorem mw_162 : Cond.instantiable RX1 9 ∈ WG := wt_1 (i := 107) rfl rfl
theorem mw_163 : Cond.methodLink RX8 22 yX1_init ∈ WG := wt_1 (i := 108) rfl rfl
theorem mw_164 : Cond.instanceMethod yX1_init ∈ WG := wt_1 (i := 109) rfl rfl
theorem mw_165 : Cond.code yX1_init cX1_init 1 none ∈ WG := wt_1 (i := 110) rfl rfl
theorem mw_166 : Cond.methodLink RX1 3 objectInit ∈ WG := wt_1 (i := 111) rfl rfl
theorem mw_167 : Cond.methodLink RX1 30 yX1_clear ∈ WG := wt_1 (i := 112) rfl rfl
theorem mw_168 : Cond.instanceMethod yX1_clear ∈ WG := wt_1 (i := 113) rfl rfl
theorem mw_169 : Cond.selects RX1 yX1_clear yX1_clear ∈ WG := wt_1 (i := 114) rfl rfl
theorem mw_170 : Cond.code yX1_clear cX1_clear 1 none ∈ WG := wt_1 (i := 115) rfl rfl
theorem mw_171 : Cond.constant RX1 40 (-2000000) ∈ WG := wt_1 (i := 116) rfl rfl
theorem mw_172 : Cond.methodLink RX1 44 yX1_await ∈ WG := wt_1 (i := 117) rfl rfl
theorem mw_174 : Cond.instanceMethod yX1_await ∈ WG := wt_1 (i := 119) rfl rfl
theorem mw_175 : Cond.code yX1_await cX1_await 2 none ∈ WG := wt_1 (i := 120) rfl rfl
theorem mw_176 : Cond.fieldLink RX1 33 "BlockTruths$Question" "size" "I" ∈ WG := wt_1 (i := 121) rfl rfl
theorem mw_177 : Cond.fieldLink RX3 19 "BlockTruths$Question" "size" "I" ∈ WG := wt_1 (i := 122) rfl rfl
theorem mw_178 : Cond.fieldLink RX2 25 "BlockTruths$Question" "size" "I" ∈ WG := wt_1 (i := 123) rfl rfl
theorem mw_179 : Cond.fieldLink RX8 137 "BlockTruths$Question" "size" "I" ∈ WG := wt_1 (i := 124) rfl rfl
theorem mw_180 : Cond.fieldLink RX1 9 "BlockTruths$Question" "signs" "[I" ∈ WG := wt_1 (i := 125) rfl rfl
theorem mw_181 : Cond.fieldLink RX3 35 "BlockTruths$Question" "signs" "[I" ∈ WG := wt_1 (i := 126) rfl rfl
theorem mw_182 : Cond.fieldLink RX2 45 "BlockTruths$Question" "signs" "[I" ∈ WG := wt_1 (i := 127) rfl rfl
theorem mw_183 : Cond.fieldLink RX1 15 "BlockTruths$Question" "roles" "[I" ∈ WG := wt_1 (i := 128) rfl rfl
theorem mw_184 : Cond.fieldLink RX3 25 "BlockTruths$Question" "roles" "[I" ∈ WG := wt_1 (i := 129) rfl rfl
theorem mw_185 : Cond.fieldLink RX2 31 "BlockTruths$Question" "roles" "[I" ∈ WG := wt_1 (i := 130) rfl rfl
theorem mw_186 : Cond.fieldLink RX8 159 "BlockTruths$Question" "roles" "[I" ∈ WG := wt_1 (i := 131) rfl rfl
theorem mw_187 : Cond.fieldLink RX1 18 "BlockTruths$Question" "seconds" "[I" ∈ WG := wt_1 (i := 132) rfl rfl
theorem mw_188 : Cond.fieldLink RX2 55 "BlockTruths$Question" "seconds" "[I" ∈ WG := wt_1 (i := 133) rfl rfl
theorem mw_189 : Cond.fieldLink RX3 46 "BlockTruths$Question" "seconds" "[I" ∈ WG := wt_1 (i := 134) rfl rfl
theorem mw_190 : Cond.fieldLink RX1 21 "BlockTruths$Question" "numbers" "[I" ∈ WG := wt_1 (i := 135) rfl rfl
theorem mw_191 : Cond.fieldLink RX3 64 "BlockTruths$Question" "numbers" "[I" ∈ WG := wt_1 (i := 136) rfl rfl
theorem mw_192 : Cond.fieldLink RX2 123 "BlockTruths$Question" "numbers" "[I" ∈ WG := wt_1 (i := 137) rfl rfl
theorem mw_193 : Cond.fieldLink RX1 24 "BlockTruths$Question" "ends" "[I" ∈ WG := wt_1 (i := 138) rfl rfl
theorem mw_194 : Cond.fieldLink RX1 27 "BlockTruths$Question" "awaited" "[I" ∈ WG := wt_1 (i := 139) rfl rfl
theorem mw_195 : Cond.fieldLink RX1 37 "BlockTruths$Question" "depth" "I" ∈ WG := wt_1 (i := 140) rfl rfl
theorem mw_196 : Cond.fieldLink RX1 41 "BlockTruths$Question" "wrongPlace" "I" ∈ WG := wt_1 (i := 141) rfl rfl
theorem mw_216 : Cond.classLink RX8 27 RX3 ∈ WG := wt_1 (i := 161) rfl rfl
theorem mw_217 : Cond.instantiable RX3 2 ∈ WG := wt_1 (i := 162) rfl rfl
theorem mw_218 : Cond.methodLink RX8 29 yX3_init ∈ WG := wt_1 (i := 163) rfl rfl
theorem mw_219 : Cond.instanceMethod yX3_init ∈ WG := wt_1 (i := 164) rfl rfl
theorem mw_220 : Cond.code yX3_init cX3_init 2 none ∈ WG := wt_1 (i := 165) rfl rfl
theorem mw_221 : Cond.methodLink RX3 3 objectInit ∈ WG := wt_1 (i := 166) rfl rfl
theorem mw_222 : Cond.fieldLink RX3 9 "BlockTruths$RowJudge" "question" "LBlockTruths$Question;" ∈ WG := wt_1 (i := 167) rfl rfl
theorem mw_223 : Cond.fieldLink RX3 15 "BlockTruths$RowJudge" "values" "[I" ∈ WG := wt_1 (i := 168) rfl rfl
theorem mw_229 : Cond.classLink RX8 36 RX2 ∈ WG := wt_1 (i := 174) rfl rfl
theorem mw_230 : Cond.instantiable RX2 4 ∈ WG := wt_1 (i := 175) rfl rfl
theorem mw_231 : Cond.methodLink RX8 38 yX2_init ∈ WG := wt_1 (i := 176) rfl rfl
theorem mw_232 : Cond.instanceMethod yX2_init ∈ WG := wt_1 (i := 177) rfl rfl
theorem mw_233 : Cond.code yX2_init cX2_init 2 none ∈ WG := wt_1 (i := 178) rfl rfl
theorem mw_234 : Cond.methodLink RX2 3 objectInit ∈ WG := wt_1 (i := 179) rfl rfl
theorem mw_235 : Cond.fieldLink RX2 15 "BlockTruths$RangeJudge" "kinds" "[I" ∈ WG := wt_1 (i := 180) rfl rfl
theorem mw_236 : Cond.fieldLink RX8 166 "BlockTruths$RangeJudge" "kinds" "[I" ∈ WG := wt_1 (i := 181) rfl rfl
theorem mw_237 : Cond.fieldLink RX2 19 "BlockTruths$RangeJudge" "lows" "[I" ∈ WG := wt_1 (i := 182) rfl rfl
theorem mw_238 : Cond.fieldLink RX8 169 "BlockTruths$RangeJudge" "lows" "[I" ∈ WG := wt_1 (i := 183) rfl rfl
theorem mw_239 : Cond.fieldLink RX2 22 "BlockTruths$RangeJudge" "highs" "[I" ∈ WG := wt_1 (i := 184) rfl rfl
theorem mw_240 : Cond.fieldLink RX8 172 "BlockTruths$RangeJudge" "highs" "[I" ∈ WG := wt_1 (i := 185) rfl rfl
theorem mw_241 : Cond.fieldLink RX2 9 "BlockTruths$RangeJudge" "question" "LBlockTruths$Question;" ∈ WG := wt_1 (i := 186) rfl rfl
theorem mw_251 : Cond.classLink RX8 50 RX4 ∈ WG := wt_1 (i := 196) rfl rfl
theorem mw_252 : Cond.instantiable RX4 2 ∈ WG := wt_1 (i := 197) rfl rfl
theorem mw_253 : Cond.methodLink RX8 52 yX4_init ∈ WG := wt_1 (i := 198) rfl rfl
theorem mw_254 : Cond.instanceMethod yX4_init ∈ WG := wt_1 (i := 199) rfl rfl
theorem mw_255 : Cond.code yX4_init cX4_init 1 none ∈ WG := wt_1 (i := 200) rfl rfl
theorem mw_256 : Cond.methodLink RX4 3 objectInit ∈ WG := wt_1 (i := 201) rfl rfl
theorem mw_257 : Cond.fieldLink RX4 15 "BlockTruths$RowKeys" "size" "I" ∈ WG := wt_1 (i := 202) rfl rfl
theorem mw_258 : Cond.fieldLink RX8 242 "BlockTruths$RowKeys" "size" "I" ∈ WG := wt_1 (i := 203) rfl rfl
theorem mw_259 : Cond.fieldLink RX4 9 "BlockTruths$RowKeys" "keys" "[J" ∈ WG := wt_1 (i := 204) rfl rfl
theorem mw_266 : Cond.classLink RX8 57 RX7 ∈ WG := wt_1 (i := 211) rfl rfl
theorem mw_267 : Cond.instantiable RX7 4 ∈ WG := wt_1 (i := 212) rfl rfl
theorem mw_268 : Cond.methodLink RX8 59 yX7_init ∈ WG := wt_1 (i := 213) rfl rfl
theorem mw_269 : Cond.instanceMethod yX7_init ∈ WG := wt_1 (i := 214) rfl rfl
theorem mw_270 : Cond.code yX7_init cX7_init 1 none ∈ WG := wt_1 (i := 215) rfl rfl
theorem mw_271 : Cond.methodLink RX7 3 objectInit ∈ WG := wt_1 (i := 216) rfl rfl
theorem mw_272 : Cond.methodLink RX7 9 yX7_clear ∈ WG := wt_1 (i := 217) rfl rfl
theorem mw_273 : Cond.instanceMethod yX7_clear ∈ WG := wt_1 (i := 218) rfl rfl
theorem mw_274 : Cond.selects RX7 yX7_clear yX7_clear ∈ WG := wt_1 (i := 219) rfl rfl
theorem mw_275 : Cond.code yX7_clear cX7_clear 1 none ∈ WG := wt_1 (i := 220) rfl rfl
theorem mw_276 : Cond.constant RX7 14 (-2000000) ∈ WG := wt_1 (i := 221) rfl rfl
theorem mw_277 : Cond.fieldLink RX7 15 "BlockTruths$Tally" "least" "I" ∈ WG := wt_1 (i := 222) rfl rfl
theorem mw_278 : Cond.fieldLink RX8 204 "BlockTruths$Tally" "least" "I" ∈ WG := wt_1 (i := 223) rfl rfl
theorem mw_279 : Cond.fieldLink RX7 19 "BlockTruths$Tally" "greatest" "I" ∈ WG := wt_1 (i := 224) rfl rfl
theorem mw_280 : Cond.fieldLink RX8 205 "BlockTruths$Tally" "greatest" "I" ∈ WG := wt_1 (i := 225) rfl rfl
theorem mw_281 : Cond.fieldLink RX7 22 "BlockTruths$Tally" "sum" "I" ∈ WG := wt_1 (i := 226) rfl rfl
theorem mw_282 : Cond.fieldLink RX8 206 "BlockTruths$Tally" "sum" "I" ∈ WG := wt_1 (i := 227) rfl rfl
theorem mw_283 : Cond.fieldLink RX7 25 "BlockTruths$Tally" "missing" "I" ∈ WG := wt_1 (i := 228) rfl rfl
theorem mw_284 : Cond.fieldLink RX8 209 "BlockTruths$Tally" "missing" "I" ∈ WG := wt_1 (i := 229) rfl rfl
theorem mw_294 : Cond.fieldLink RX8 12 "BlockTruths" "store" "LBlockTruths$Store;" ∈ WG := wt_1 (i := 239) rfl rfl
theorem mw_295 : Cond.fieldLink RX8 16 "BlockTruths" "images" "[LBlockTruths$Store;" ∈ WG := wt_2 (i := 0) rfl rfl
theorem mw_296 : Cond.fieldLink RX8 23 "BlockTruths" "question" "LBlockTruths$Question;" ∈ WG := wt_2 (i := 1) rfl rfl
theorem mw_297 : Cond.fieldLink RX8 32 "BlockTruths" "rowJudge" "LBlockTruths$RowJudge;" ∈ WG := wt_2 (i := 2) rfl rfl
theorem mw_298 : Cond.fieldLink RX8 39 "BlockTruths" "rangeJudge" "LBlockTruths$RangeJudge;" ∈ WG := wt_2 (i := 3) rfl rfl
theorem mw_299 : Cond.fieldLink RX8 43 "BlockTruths" "listedRow" "[I" ∈ WG := wt_2 (i := 4) rfl rfl
theorem mw_300 : Cond.fieldLink RX8 47 "BlockTruths" "chances" "[I" ∈ WG := wt_2 (i := 5) rfl rfl
theorem mw_301 : Cond.fieldLink RX8 53 "BlockTruths" "keys" "LBlockTruths$RowKeys;" ∈ WG := wt_2 (i := 6) rfl rfl
theorem mw_302 : Cond.fieldLink RX8 60 "BlockTruths" "tally" "LBlockTruths$Tally;" ∈ WG := wt_2 (i := 7) rfl rfl
theorem mw_322 : Cond.methodLink RL 13 yX8_add ∈ WG := wt_2 (i := 27) rfl rfl
theorem mw_323 : Cond.instanceMethod yX8_add ∈ WG := wt_2 (i := 28) rfl rfl
theorem mw_324 : Cond.selects RX8 yX8_add yX8_add ∈ WG := wt_2 (i := 29) rfl rfl
theorem mw_325 : Cond.code yX8_add cX8_add 6 (some .int) ∈ WG := wt_2 (i := 30) rfl rfl
theorem mw_326 : Cond.methodLink RX8 64 yX8_isBlock ∈ WG := wt_2 (i := 31) rfl rfl
theorem mw_327 : Cond.static yX8_isBlock ∈ WG := wt_2 (i := 32) rfl rfl
theorem mw_328 : Cond.code yX8_isBlock cX8_isBlock 1 (some .boolean) ∈ WG := wt_2 (i := 33) rfl rfl
theorem mw_329 : Cond.methodLink RX8 68 yX8_isEntry ∈ WG := wt_2 (i := 34) rfl rfl
theorem mw_330 : Cond.static yX8_isEntry ∈ WG := wt_2 (i := 35) rfl rfl
theorem mw_331 : Cond.code yX8_isEntry cX8_isEntry 1 (some .boolean) ∈ WG := wt_2 (i := 36) rfl rfl
theorem mw_332 : Cond.methodLink RX8 75 yX0_append ∈ WG := wt_2 (i := 37) rfl rfl
theorem mw_333 : Cond.instanceMethod yX0_append ∈ WG := wt_2 (i := 38) rfl rfl
theorem mw_334 : Cond.selects RX0 yX0_append yX0_append ∈ WG := wt_2 (i := 39) rfl rfl
theorem mw_335 : Cond.code yX0_append cX0_append 7 (some .int) ∈ WG := wt_2 (i := 40) rfl rfl
theorem mw_336 : Cond.methodLink RX0 31 yX6_come ∈ WG := wt_2 (i := 41) rfl rfl
theorem mw_337 : Cond.instanceMethod yX6_come ∈ WG := wt_2 (i := 42) rfl rfl
theorem mw_338 : Cond.selects RX6 yX6_come yX6_come ∈ WG := wt_2 (i := 43) rfl rfl
theorem mw_339 : Cond.code yX6_come cX6_come 2 none ∈ WG := wt_2 (i := 44) rfl rfl
theorem mw_340 : Cond.methodLink RX6 39 Lib.Math.min.name ∈ WG := wt_2 (i := 45) rfl rfl
theorem mw_341 : Cond.static Lib.Math.min.name ∈ WG := wt_2 (i := 46) rfl rfl
theorem mw_342 : Cond.code Lib.Math.min.name Lib.Math.min.code 2 (some .int) ∈ WG := wt_2 (i := 47) rfl rfl
theorem mw_343 : Cond.methodLink RX6 45 Lib.Math.max.name ∈ WG := wt_2 (i := 48) rfl rfl
theorem mw_344 : Cond.static Lib.Math.max.name ∈ WG := wt_2 (i := 49) rfl rfl
theorem mw_345 : Cond.code Lib.Math.max.name Lib.Math.max.code 2 (some .int) ∈ WG := wt_2 (i := 50) rfl rfl
theorem mw_346 : Cond.methodLink RX6 48 yX6_enlist ∈ WG := wt_2 (i := 51) rfl rfl
theorem mw_348 : Cond.instanceMethod yX6_enlist ∈ WG := wt_2 (i := 53) rfl rfl
theorem mw_349 : Cond.code yX6_enlist cX6_enlist 3 none ∈ WG := wt_2 (i := 54) rfl rfl
theorem mw_350 : Cond.methodLink RX6 52 yX6_placeOf ∈ WG := wt_2 (i := 55) rfl rfl
theorem mw_352 : Cond.instanceMethod yX6_placeOf ∈ WG := wt_2 (i := 57) rfl rfl
theorem mw_353 : Cond.code yX6_placeOf cX6_placeOf 3 (some .int) ∈ WG := wt_2 (i := 58) rfl rfl
theorem mw_354 : Cond.methodLink RL 18 yX8_drop ∈ WG := wt_2 (i := 59) rfl rfl
theorem mw_355 : Cond.instanceMethod yX8_drop ∈ WG := wt_2 (i := 60) rfl rfl
theorem mw_356 : Cond.selects RX8 yX8_drop yX8_drop ∈ WG := wt_2 (i := 61) rfl rfl
theorem mw_357 : Cond.code yX8_drop cX8_drop 3 (some .int) ∈ WG := wt_2 (i := 62) rfl rfl
theorem mw_358 : Cond.methodLink RX8 81 yX8_isRow ∈ WG := wt_2 (i := 63) rfl rfl
theorem mw_360 : Cond.instanceMethod yX8_isRow ∈ WG := wt_2 (i := 65) rfl rfl
theorem mw_361 : Cond.code yX8_isRow cX8_isRow 3 (some .boolean) ∈ WG := wt_2 (i := 66) rfl rfl
theorem mw_362 : Cond.methodLink RX8 85 yX0_remove ∈ WG := wt_2 (i := 67) rfl rfl
theorem mw_363 : Cond.instanceMethod yX0_remove ∈ WG := wt_2 (i := 68) rfl rfl
theorem mw_364 : Cond.selects RX0 yX0_remove yX0_remove ∈ WG := wt_2 (i := 69) rfl rfl
theorem mw_365 : Cond.code yX0_remove cX0_remove 3 (some .int) ∈ WG := wt_2 (i := 70) rfl rfl
theorem mw_366 : Cond.methodLink RX0 35 yX6_leave ∈ WG := wt_2 (i := 71) rfl rfl
theorem mw_367 : Cond.instanceMethod yX6_leave ∈ WG := wt_2 (i := 72) rfl rfl
theorem mw_368 : Cond.selects RX6 yX6_leave yX6_leave ∈ WG := wt_2 (i := 73) rfl rfl
theorem mw_369 : Cond.code yX6_leave cX6_leave 3 none ∈ WG := wt_2 (i := 74) rfl rfl
theorem mw_370 : Cond.methodLink RX0 38 arraycopyName ∈ WG := wt_2 (i := 75) rfl rfl
theorem mw_371 : Cond.static arraycopyName ∈ WG := wt_2 (i := 76) rfl rfl
theorem mw_372 : Cond.native arraycopyName ∈ WG := wt_2 (i := 77) rfl rfl
theorem mw_373 : Cond.methodLink RL 23 yX8_anew ∈ WG := wt_2 (i := 78) rfl rfl
theorem mw_374 : Cond.instanceMethod yX8_anew ∈ WG := wt_2 (i := 79) rfl rfl
theorem mw_375 : Cond.selects RX8 yX8_anew yX8_anew ∈ WG := wt_2 (i := 80) rfl rfl
theorem mw_376 : Cond.code yX8_anew cX8_anew 2 (some .int) ∈ WG := wt_2 (i := 81) rfl rfl
theorem mw_377 : Cond.methodLink RX8 89 yX0_renew ∈ WG := wt_2 (i := 82) rfl rfl
theorem mw_378 : Cond.instanceMethod yX0_renew ∈ WG := wt_2 (i := 83) rfl rfl
theorem mw_379 : Cond.selects RX0 yX0_renew yX0_renew ∈ WG := wt_2 (i := 84) rfl rfl
theorem mw_380 : Cond.code yX0_renew cX0_renew 3 (some .int) ∈ WG := wt_2 (i := 85) rfl rfl
theorem mw_381 : Cond.methodLink RX0 54 yX0_isStale ∈ WG := wt_2 (i := 86) rfl rfl
theorem mw_382 : Cond.instanceMethod yX0_isStale ∈ WG := wt_2 (i := 87) rfl rfl
theorem mw_383 : Cond.selects RX0 yX0_isStale yX0_isStale ∈ WG := wt_2 (i := 88) rfl rfl
theorem mw_384 : Cond.code yX0_isStale cX0_isStale 2 (some .boolean) ∈ WG := wt_2 (i := 89) rfl rfl
theorem mw_385 : Cond.methodLink RX0 47 yX0_makeFresh ∈ WG := wt_2 (i := 90) rfl rfl
theorem mw_387 : Cond.instanceMethod yX0_makeFresh ∈ WG := wt_2 (i := 92) rfl rfl
theorem mw_388 : Cond.code yX0_makeFresh cX0_makeFresh 3 none ∈ WG := wt_2 (i := 93) rfl rfl
theorem mw_389 : Cond.methodLink RX0 44 yX6_clear ∈ WG := wt_2 (i := 94) rfl rfl
theorem mw_390 : Cond.methodLink RX0 50 yX6_differsFrom ∈ WG := wt_2 (i := 95) rfl rfl
theorem mw_391 : Cond.instanceMethod yX6_differsFrom ∈ WG := wt_2 (i := 96) rfl rfl
theorem mw_392 : Cond.selects RX6 yX6_differsFrom yX6_differsFrom ∈ WG := wt_2 (i := 97) rfl rfl
theorem mw_393 : Cond.code yX6_differsFrom cX6_differsFrom 3 (some .boolean) ∈ WG := wt_2 (i := 98) rfl rfl
theorem mw_394 : Cond.methodLink RX0 58 yX6_copyFrom ∈ WG := wt_2 (i := 99) rfl rfl
theorem mw_395 : Cond.instanceMethod yX6_copyFrom ∈ WG := wt_2 (i := 100) rfl rfl
theorem mw_396 : Cond.selects RX6 yX6_copyFrom yX6_copyFrom ∈ WG := wt_2 (i := 101) rfl rfl
theorem mw_397 : Cond.code yX6_copyFrom cX6_copyFrom 2 none ∈ WG := wt_2 (i := 102) rfl rfl
theorem mw_398 : Cond.methodLink RX6 56 arraycopyName ∈ WG := wt_2 (i := 103) rfl rfl
theorem mw_399 : Cond.methodLink RL 28 yX8_cell ∈ WG := wt_2 (i := 104) rfl rfl
theorem mw_400 : Cond.instanceMethod yX8_cell ∈ WG := wt_2 (i := 105) rfl rfl
theorem mw_401 : Cond.selects RX8 yX8_cell yX8_cell ∈ WG := wt_2 (i := 106) rfl rfl
theorem mw_402 : Cond.code yX8_cell cX8_cell 4 (some .int) ∈ WG := wt_2 (i := 107) rfl rfl
theorem mw_403 : Cond.methodLink RX8 93 yX8_isColumn ∈ WG := wt_2 (i := 108) rfl rfl
theorem mw_404 : Cond.static yX8_isColumn ∈ WG := wt_2 (i := 109) rfl rfl
theorem mw_405 : Cond.code yX8_isColumn cX8_isColumn 1 (some .boolean) ∈ WG := wt_2 (i := 110) rfl rfl
theorem mw_406 : Cond.constant RX8 96 (-3000001) ∈ WG := wt_2 (i := 111) rfl rfl
theorem mw_407 : Cond.methodLink RL 33 yX8_summary ∈ WG := wt_2 (i := 112) rfl rfl
theorem mw_408 : Cond.instanceMethod yX8_summary ∈ WG := wt_2 (i := 113) rfl rfl
theorem mw_409 : Cond.selects RX8 yX8_summary yX8_summary ∈ WG := wt_2 (i := 114) rfl rfl
theorem mw_410 : Cond.code yX8_summary cX8_summary 5 (some .int) ∈ WG := wt_2 (i := 115) rfl rfl
theorem mw_411 : Cond.constant RX8 121 (-2000000) ∈ WG := wt_2 (i := 116) rfl rfl
theorem mw_412 : Cond.methodLink RX8 125 yX0_isStale ∈ WG := wt_2 (i := 117) rfl rfl
theorem mw_413 : Cond.constant RX8 128 (-3000002) ∈ WG := wt_2 (i := 118) rfl rfl
theorem mw_414 : Cond.methodLink RL 37 yX8_listed ∈ WG := wt_2 (i := 119) rfl rfl
theorem mw_415 : Cond.instanceMethod yX8_listed ∈ WG := wt_2 (i := 120) rfl rfl
theorem mw_416 : Cond.selects RX8 yX8_listed yX8_listed ∈ WG := wt_2 (i := 121) rfl rfl
theorem mw_417 : Cond.code yX8_listed cX8_listed 6 (some .int) ∈ WG := wt_2 (i := 122) rfl rfl
theorem mw_418 : Cond.methodLink RL 42 yX8_say ∈ WG := wt_2 (i := 123) rfl rfl
theorem mw_419 : Cond.instanceMethod yX8_say ∈ WG := wt_2 (i := 124) rfl rfl
theorem mw_420 : Cond.selects RX8 yX8_say yX8_say ∈ WG := wt_2 (i := 125) rfl rfl
theorem mw_421 : Cond.code yX8_say cX8_say 2 (some .int) ∈ WG := wt_2 (i := 126) rfl rfl
theorem mw_422 : Cond.methodLink RX8 135 yX1_append ∈ WG := wt_2 (i := 127) rfl rfl
theorem mw_423 : Cond.instanceMethod yX1_append ∈ WG := wt_2 (i := 128) rfl rfl
theorem mw_424 : Cond.selects RX1 yX1_append yX1_append ∈ WG := wt_2 (i := 129) rfl rfl
theorem mw_425 : Cond.code yX1_append cX1_append 2 (some .int) ∈ WG := wt_2 (i := 130) rfl rfl
theorem mw_426 : Cond.methodLink RX1 48 yX1_canStand ∈ WG := wt_2 (i := 131) rfl rfl
theorem mw_428 : Cond.instanceMethod yX1_canStand ∈ WG := wt_2 (i := 133) rfl rfl
theorem mw_429 : Cond.code yX1_canStand cX1_canStand 3 (some .boolean) ∈ WG := wt_2 (i := 134) rfl rfl
theorem mw_430 : Cond.methodLink RX1 59 yX1_beginsTruth ∈ WG := wt_2 (i := 135) rfl rfl
theorem mw_432 : Cond.instanceMethod yX1_beginsTruth ∈ WG := wt_2 (i := 137) rfl rfl
theorem mw_433 : Cond.code yX1_beginsTruth cX1_beginsTruth 2 (some .boolean) ∈ WG := wt_2 (i := 138) rfl rfl
theorem mw_434 : Cond.methodLink RX1 62 yX1_beginsTerm ∈ WG := wt_2 (i := 139) rfl rfl
theorem mw_436 : Cond.instanceMethod yX1_beginsTerm ∈ WG := wt_2 (i := 141) rfl rfl
theorem mw_437 : Cond.code yX1_beginsTerm cX1_beginsTerm 2 (some .boolean) ∈ WG := wt_2 (i := 142) rfl rfl
theorem mw_439 : Cond.static yX8_isLetter ∈ WG := wt_2 (i := 144) rfl rfl
theorem mw_440 : Cond.code yX8_isLetter cX8_isLetter 1 (some .boolean) ∈ WG := wt_2 (i := 145) rfl rfl
theorem mw_442 : Cond.static yX8_isFigure ∈ WG := wt_2 (i := 147) rfl rfl
theorem mw_443 : Cond.code yX8_isFigure cX8_isFigure 1 (some .boolean) ∈ WG := wt_2 (i := 148) rfl rfl
theorem mw_444 : Cond.methodLink RX1 52 yX1_isFaulty ∈ WG := wt_2 (i := 149) rfl rfl
theorem mw_445 : Cond.instanceMethod yX1_isFaulty ∈ WG := wt_2 (i := 150) rfl rfl
theorem mw_446 : Cond.selects RX1 yX1_isFaulty yX1_isFaulty ∈ WG := wt_2 (i := 151) rfl rfl
theorem mw_447 : Cond.code yX1_isFaulty cX1_isFaulty 1 (some .boolean) ∈ WG := wt_2 (i := 152) rfl rfl
theorem mw_448 : Cond.methodLink RX1 56 yX1_findParts ∈ WG := wt_2 (i := 153) rfl rfl
theorem mw_450 : Cond.instanceMethod yX1_findParts ∈ WG := wt_2 (i := 155) rfl rfl
theorem mw_451 : Cond.code yX1_findParts cX1_findParts 3 none ∈ WG := wt_2 (i := 156) rfl rfl
theorem mw_453 : Cond.static yX8_at ∈ WG := wt_2 (i := 158) rfl rfl
theorem mw_454 : Cond.code yX8_at cX8_at 2 (some .int) ∈ WG := wt_2 (i := 159) rfl rfl
theorem mw_455 : Cond.methodLink RX1 75 yX1_numberAt ∈ WG := wt_2 (i := 160) rfl rfl
theorem mw_457 : Cond.instanceMethod yX1_numberAt ∈ WG := wt_2 (i := 162) rfl rfl
theorem mw_458 : Cond.code yX1_numberAt cX1_numberAt 2 (some .int) ∈ WG := wt_2 (i := 163) rfl rfl
theorem mw_459 : Cond.methodLink RX1 82 yX1_figureAt ∈ WG := wt_2 (i := 164) rfl rfl
theorem mw_461 : Cond.instanceMethod yX1_figureAt ∈ WG := wt_2 (i := 166) rfl rfl
theorem mw_462 : Cond.code yX1_figureAt cX1_figureAt 3 (some .int) ∈ WG := wt_2 (i := 167) rfl rfl
theorem mw_464 : Cond.static yX8_hasSecond ∈ WG := wt_2 (i := 169) rfl rfl
theorem mw_465 : Cond.code yX8_hasSecond cX8_hasSecond 1 (some .boolean) ∈ WG := wt_2 (i := 170) rfl rfl
theorem mw_466 : Cond.methodLink RX8 246 yX8_isSum ∈ WG := wt_2 (i := 171) rfl rfl
theorem mw_467 : Cond.static yX8_isSum ∈ WG := wt_2 (i := 172) rfl rfl
theorem mw_468 : Cond.code yX8_isSum cX8_isSum 1 (some .boolean) ∈ WG := wt_2 (i := 173) rfl rfl
theorem mw_469 : Cond.methodLink RL 46 yX8_wipe ∈ WG := wt_2 (i := 174) rfl rfl
theorem mw_470 : Cond.instanceMethod yX8_wipe ∈ WG := wt_2 (i := 175) rfl rfl
theorem mw_471 : Cond.selects RX8 yX8_wipe yX8_wipe ∈ WG := wt_2 (i := 176) rfl rfl
theorem mw_472 : Cond.code yX8_wipe cX8_wipe 2 (some .int) ∈ WG := wt_2 (i := 177) rfl rfl
theorem mw_473 : Cond.methodLink RX8 138 yX1_clear ∈ WG := wt_2 (i := 178) rfl rfl
theorem mw_474 : Cond.methodLink RL 51 yX8_fault ∈ WG := wt_2 (i := 179) rfl rfl
theorem mw_475 : Cond.instanceMethod yX8_fault ∈ WG := wt_2 (i := 180) rfl rfl
theorem mw_476 : Cond.selects RX8 yX8_fault yX8_fault ∈ WG := wt_2 (i := 181) rfl rfl
theorem mw_477 : Cond.code yX8_fault cX8_fault 1 (some .int) ∈ WG := wt_2 (i := 182) rfl rfl
theorem mw_478 : Cond.methodLink RX8 141 yX1_faultPlace ∈ WG := wt_2 (i := 183) rfl rfl
theorem mw_479 : Cond.instanceMethod yX1_faultPlace ∈ WG := wt_2 (i := 184) rfl rfl
theorem mw_480 : Cond.selects RX1 yX1_faultPlace yX1_faultPlace ∈ WG := wt_2 (i := 185) rfl rfl
theorem mw_481 : Cond.code yX1_faultPlace cX1_faultPlace 1 (some .int) ∈ WG := wt_2 (i := 186) rfl rfl
theorem mw_482 : Cond.methodLink RL 55 yX8_truth ∈ WG := wt_2 (i := 187) rfl rfl
theorem mw_483 : Cond.instanceMethod yX8_truth ∈ WG := wt_2 (i := 188) rfl rfl
theorem mw_484 : Cond.selects RX8 yX8_truth yX8_truth ∈ WG := wt_2 (i := 189) rfl rfl
theorem mw_485 : Cond.code yX8_truth cX8_truth 3 (some .int) ∈ WG := wt_2 (i := 190) rfl rfl
theorem mw_486 : Cond.methodLink RX8 144 yX1_isFaulty ∈ WG := wt_2 (i := 191) rfl rfl
theorem mw_487 : Cond.methodLink RX8 148 yX3_judge ∈ WG := wt_2 (i := 192) rfl rfl
theorem mw_488 : Cond.instanceMethod yX3_judge ∈ WG := wt_2 (i := 193) rfl rfl
theorem mw_489 : Cond.selects RX3 yX3_judge yX3_judge ∈ WG := wt_2 (i := 194) rfl rfl
theorem mw_490 : Cond.code yX3_judge cX3_judge 3 (some .int) ∈ WG := wt_2 (i := 195) rfl rfl
theorem mw_491 : Cond.methodLink RX3 28 yX3_truthAt ∈ WG := wt_2 (i := 196) rfl rfl
theorem mw_493 : Cond.instanceMethod yX3_truthAt ∈ WG := wt_2 (i := 198) rfl rfl
theorem mw_494 : Cond.code yX3_truthAt cX3_truthAt 7 (some .int) ∈ WG := wt_2 (i := 199) rfl rfl
theorem mw_497 : Cond.static yX8_notOf ∈ WG := wt_2 (i := 202) rfl rfl
theorem mw_498 : Cond.code yX8_notOf cX8_notOf 1 (some .int) ∈ WG := wt_2 (i := 203) rfl rfl
theorem mw_500 : Cond.static yX8_bothOf ∈ WG := wt_2 (i := 205) rfl rfl
theorem mw_501 : Cond.code yX8_bothOf cX8_bothOf 2 (some .int) ∈ WG := wt_2 (i := 206) rfl rfl
theorem mw_503 : Cond.static yX8_eitherOf ∈ WG := wt_2 (i := 208) rfl rfl
theorem mw_504 : Cond.code yX8_eitherOf cX8_eitherOf 2 (some .int) ∈ WG := wt_2 (i := 209) rfl rfl
theorem mw_505 : Cond.constant RX3 56 (-2000000) ∈ WG := wt_2 (i := 210) rfl rfl
theorem mw_506 : Cond.methodLink RX3 32 yX3_termAt ∈ WG := wt_2 (i := 211) rfl rfl
theorem mw_508 : Cond.instanceMethod yX3_termAt ∈ WG := wt_2 (i := 213) rfl rfl
theorem mw_509 : Cond.code yX3_termAt cX3_termAt 6 (some .int) ∈ WG := wt_2 (i := 214) rfl rfl
theorem mw_513 : Cond.static yX8_sumOf ∈ WG := wt_2 (i := 218) rfl rfl
theorem mw_514 : Cond.code yX8_sumOf cX8_sumOf 5 (some .int) ∈ WG := wt_2 (i := 219) rfl rfl
theorem mw_515 : Cond.constantLong RX8 249 (-1000000) ∈ WG := wt_2 (i := 220) rfl rfl
theorem mw_516 : Cond.constant RX8 251 (-1000000) ∈ WG := wt_2 (i := 221) rfl rfl
theorem mw_517 : Cond.constantLong RX8 252 (1000000) ∈ WG := wt_2 (i := 222) rfl rfl
theorem mw_518 : Cond.constant RX8 254 (1000000) ∈ WG := wt_2 (i := 223) rfl rfl
theorem mw_519 : Cond.methodLink RL 59 yX8_range ∈ WG := wt_2 (i := 224) rfl rfl
theorem mw_520 : Cond.instanceMethod yX8_range ∈ WG := wt_2 (i := 225) rfl rfl
theorem mw_521 : Cond.selects RX8 yX8_range yX8_range ∈ WG := wt_2 (i := 226) rfl rfl
theorem mw_522 : Cond.code yX8_range cX8_range 4 (some .int) ∈ WG := wt_2 (i := 227) rfl rfl
theorem mw_523 : Cond.methodLink RX8 152 yX8_isPlace ∈ WG := wt_2 (i := 228) rfl rfl
theorem mw_525 : Cond.instanceMethod yX8_isPlace ∈ WG := wt_2 (i := 230) rfl rfl
theorem mw_526 : Cond.code yX8_isPlace cX8_isPlace 2 (some .boolean) ∈ WG := wt_2 (i := 231) rfl rfl
theorem mw_527 : Cond.constant RX8 155 (-3000005) ∈ WG := wt_2 (i := 232) rfl rfl
theorem mw_528 : Cond.constant RX8 162 (-3000003) ∈ WG := wt_2 (i := 233) rfl rfl
theorem mw_529 : Cond.methodLink RX8 163 yX2_judge ∈ WG := wt_2 (i := 234) rfl rfl
theorem mw_530 : Cond.instanceMethod yX2_judge ∈ WG := wt_2 (i := 235) rfl rfl
theorem mw_531 : Cond.selects RX2 yX2_judge yX2_judge ∈ WG := wt_2 (i := 236) rfl rfl
theorem mw_532 : Cond.code yX2_judge cX2_judge 3 none ∈ WG := wt_2 (i := 237) rfl rfl
theorem mw_533 : Cond.methodLink RX2 34 yX2_chancesAt ∈ WG := wt_2 (i := 238) rfl rfl
theorem mw_535 : Cond.instanceMethod yX2_chancesAt ∈ WG := wt_3 (i := 0) rfl rfl
theorem mw_536 : Cond.code yX2_chancesAt cX2_chancesAt 6 (some .int) ∈ WG := wt_3 (i := 1) rfl rfl
theorem mw_538 : Cond.methodLink RX2 52 yX2_missingChances ∈ WG := wt_3 (i := 3) rfl rfl
theorem mw_539 : Cond.static yX2_missingChances ∈ WG := wt_3 (i := 4) rfl rfl
theorem mw_540 : Cond.code yX2_missingChances cX2_missingChances 4 (some .int) ∈ WG := wt_3 (i := 5) rfl rfl
theorem mw_542 : Cond.methodLink RX2 58 yX2_comparedChances ∈ WG := wt_3 (i := 7) rfl rfl
theorem mw_544 : Cond.instanceMethod yX2_comparedChances ∈ WG := wt_3 (i := 9) rfl rfl
theorem mw_545 : Cond.code yX2_comparedChances cX2_comparedChances 14 (some .int) ∈ WG := wt_3 (i := 10) rfl rfl
theorem mw_546 : Cond.methodLink RX2 62 yX2_notChances ∈ WG := wt_3 (i := 11) rfl rfl
theorem mw_547 : Cond.static yX2_notChances ∈ WG := wt_3 (i := 12) rfl rfl
theorem mw_548 : Cond.code yX2_notChances cX2_notChances 3 (some .int) ∈ WG := wt_3 (i := 13) rfl rfl
theorem mw_550 : Cond.static yX8_chanceOf ∈ WG := wt_3 (i := 15) rfl rfl
theorem mw_551 : Cond.code yX8_chanceOf cX8_chanceOf 1 (some .int) ∈ WG := wt_3 (i := 16) rfl rfl
theorem mw_553 : Cond.methodLink RX2 66 yX2_joinedChances ∈ WG := wt_3 (i := 18) rfl rfl
theorem mw_554 : Cond.static yX2_joinedChances ∈ WG := wt_3 (i := 19) rfl rfl
theorem mw_555 : Cond.code yX2_joinedChances cX2_joinedChances 6 (some .int) ∈ WG := wt_3 (i := 20) rfl rfl
theorem mw_558 : Cond.methodLink RX2 38 yX2_kindAt ∈ WG := wt_3 (i := 23) rfl rfl
theorem mw_560 : Cond.instanceMethod yX2_kindAt ∈ WG := wt_3 (i := 25) rfl rfl
theorem mw_561 : Cond.code yX2_kindAt cX2_kindAt 6 (some .int) ∈ WG := wt_3 (i := 26) rfl rfl
theorem mw_565 : Cond.methodLink RX2 41 yX2_findBounds ∈ WG := wt_3 (i := 30) rfl rfl
theorem mw_567 : Cond.instanceMethod yX2_findBounds ∈ WG := wt_3 (i := 32) rfl rfl
theorem mw_568 : Cond.code yX2_findBounds cX2_findBounds 6 none ∈ WG := wt_3 (i := 33) rfl rfl
theorem mw_569 : Cond.constant RX2 109 (-2000000) ∈ WG := wt_3 (i := 34) rfl rfl
theorem mw_570 : Cond.methodLink RX2 110 yX2_setBounds ∈ WG := wt_3 (i := 35) rfl rfl
theorem mw_572 : Cond.instanceMethod yX2_setBounds ∈ WG := wt_3 (i := 37) rfl rfl
theorem mw_573 : Cond.code yX2_setBounds cX2_setBounds 4 none ∈ WG := wt_3 (i := 38) rfl rfl
theorem mw_574 : Cond.methodLink RX2 120 yX2_byteBounds ∈ WG := wt_3 (i := 39) rfl rfl
theorem mw_576 : Cond.instanceMethod yX2_byteBounds ∈ WG := wt_3 (i := 41) rfl rfl
theorem mw_577 : Cond.code yX2_byteBounds cX2_byteBounds 6 none ∈ WG := wt_3 (i := 42) rfl rfl
theorem mw_578 : Cond.methodLink RX2 126 yX2_leftOverBounds ∈ WG := wt_3 (i := 43) rfl rfl
theorem mw_580 : Cond.instanceMethod yX2_leftOverBounds ∈ WG := wt_3 (i := 45) rfl rfl
theorem mw_581 : Cond.code yX2_leftOverBounds cX2_leftOverBounds 8 none ∈ WG := wt_3 (i := 46) rfl rfl
theorem mw_582 : Cond.methodLink RX2 145 Lib.Math.max.name ∈ WG := wt_3 (i := 47) rfl rfl
theorem mw_583 : Cond.methodLink RX2 140 Lib.Math.min.name ∈ WG := wt_3 (i := 48) rfl rfl
theorem mw_584 : Cond.methodLink RX2 130 yX2_sumBounds ∈ WG := wt_3 (i := 49) rfl rfl
theorem mw_586 : Cond.instanceMethod yX2_sumBounds ∈ WG := wt_3 (i := 51) rfl rfl
theorem mw_587 : Cond.code yX2_sumBounds cX2_sumBounds 6 none ∈ WG := wt_3 (i := 52) rfl rfl
theorem mw_589 : Cond.methodLink RX2 133 yX2_productBounds ∈ WG := wt_3 (i := 54) rfl rfl
theorem mw_591 : Cond.instanceMethod yX2_productBounds ∈ WG := wt_3 (i := 56) rfl rfl
theorem mw_592 : Cond.code yX2_productBounds cX2_productBounds 11 none ∈ WG := wt_3 (i := 57) rfl rfl
theorem mw_593 : Cond.methodLink RL 63 yX8_may ∈ WG := wt_3 (i := 58) rfl rfl
theorem mw_594 : Cond.instanceMethod yX8_may ∈ WG := wt_3 (i := 59) rfl rfl
theorem mw_595 : Cond.selects RX8 yX8_may yX8_may ∈ WG := wt_3 (i := 60) rfl rfl
theorem mw_596 : Cond.code yX8_may cX8_may 3 (some .int) ∈ WG := wt_3 (i := 61) rfl rfl
theorem mw_597 : Cond.methodLink RL 67 yX8_verdict ∈ WG := wt_3 (i := 62) rfl rfl
theorem mw_598 : Cond.instanceMethod yX8_verdict ∈ WG := wt_3 (i := 63) rfl rfl
theorem mw_599 : Cond.selects RX8 yX8_verdict yX8_verdict ∈ WG := wt_3 (i := 64) rfl rfl
theorem mw_600 : Cond.code yX8_verdict cX8_verdict 4 (some .int) ∈ WG := wt_3 (i := 65) rfl rfl
theorem mw_601 : Cond.methodLink RX8 175 yX8_chancesIn ∈ WG := wt_3 (i := 66) rfl rfl
theorem mw_603 : Cond.instanceMethod yX8_chancesIn ∈ WG := wt_3 (i := 68) rfl rfl
theorem mw_604 : Cond.code yX8_chancesIn cX8_chancesIn 3 (some .int) ∈ WG := wt_3 (i := 69) rfl rfl
theorem mw_605 : Cond.methodLink RX8 223 yX1_onlyColumn ∈ WG := wt_3 (i := 70) rfl rfl
theorem mw_606 : Cond.instanceMethod yX1_onlyColumn ∈ WG := wt_3 (i := 71) rfl rfl
theorem mw_607 : Cond.selects RX1 yX1_onlyColumn yX1_onlyColumn ∈ WG := wt_3 (i := 72) rfl rfl
theorem mw_608 : Cond.code yX1_onlyColumn cX1_onlyColumn 3 (some .int) ∈ WG := wt_3 (i := 73) rfl rfl
theorem mw_609 : Cond.methodLink RX8 226 yX8_chancesByList ∈ WG := wt_3 (i := 74) rfl rfl
theorem mw_611 : Cond.instanceMethod yX8_chancesByList ∈ WG := wt_3 (i := 76) rfl rfl
theorem mw_612 : Cond.code yX8_chancesByList cX8_chancesByList 5 (some .int) ∈ WG := wt_3 (i := 77) rfl rfl
theorem mw_613 : Cond.methodLink RX8 230 yX8_chanceOf ∈ WG := wt_3 (i := 78) rfl rfl
theorem mw_614 : Cond.methodLink RX8 179 yX8_rulingOf ∈ WG := wt_3 (i := 79) rfl rfl
theorem mw_615 : Cond.static yX8_rulingOf ∈ WG := wt_3 (i := 80) rfl rfl
theorem mw_616 : Cond.code yX8_rulingOf cX8_rulingOf 1 (some .int) ∈ WG := wt_3 (i := 81) rfl rfl
theorem mw_617 : Cond.methodLink RL 71 yX8_answer ∈ WG := wt_3 (i := 82) rfl rfl
theorem mw_618 : Cond.instanceMethod yX8_answer ∈ WG := wt_3 (i := 83) rfl rfl
theorem mw_619 : Cond.selects RX8 yX8_answer yX8_answer ∈ WG := wt_3 (i := 84) rfl rfl
theorem mw_620 : Cond.code yX8_answer cX8_answer 2 (some .int) ∈ WG := wt_3 (i := 85) rfl rfl
theorem mw_621 : Cond.methodLink RX8 182 yX8_countMatches ∈ WG := wt_3 (i := 86) rfl rfl
theorem mw_623 : Cond.instanceMethod yX8_countMatches ∈ WG := wt_3 (i := 88) rfl rfl
theorem mw_624 : Cond.code yX8_countMatches cX8_countMatches 5 (some .int) ∈ WG := wt_3 (i := 89) rfl rfl
theorem mw_625 : Cond.methodLink RX8 233 yX8_isMatch ∈ WG := wt_3 (i := 90) rfl rfl
theorem mw_627 : Cond.instanceMethod yX8_isMatch ∈ WG := wt_3 (i := 92) rfl rfl
theorem mw_628 : Cond.code yX8_isMatch cX8_isMatch 2 (some .boolean) ∈ WG := wt_3 (i := 93) rfl rfl
theorem mw_629 : Cond.methodLink RX8 185 yX8_countUnlikeMatches ∈ WG := wt_3 (i := 94) rfl rfl
theorem mw_631 : Cond.instanceMethod yX8_countUnlikeMatches ∈ WG := wt_3 (i := 96) rfl rfl
theorem mw_632 : Cond.code yX8_countUnlikeMatches cX8_countUnlikeMatches 4 (some .int) ∈ WG := wt_3 (i := 97) rfl rfl
theorem mw_633 : Cond.methodLink RX8 237 yX4_clear ∈ WG := wt_3 (i := 98) rfl rfl
theorem mw_634 : Cond.instanceMethod yX4_clear ∈ WG := wt_3 (i := 99) rfl rfl
theorem mw_635 : Cond.selects RX4 yX4_clear yX4_clear ∈ WG := wt_3 (i := 100) rfl rfl
theorem mw_636 : Cond.code yX4_clear cX4_clear 1 none ∈ WG := wt_3 (i := 101) rfl rfl
theorem mw_637 : Cond.methodLink RX8 238 yX4_note ∈ WG := wt_3 (i := 102) rfl rfl
theorem mw_638 : Cond.instanceMethod yX4_note ∈ WG := wt_3 (i := 103) rfl rfl
theorem mw_639 : Cond.selects RX4 yX4_note yX4_note ∈ WG := wt_3 (i := 104) rfl rfl
theorem mw_640 : Cond.code yX4_note cX4_note 5 none ∈ WG := wt_3 (i := 105) rfl rfl
theorem mw_641 : Cond.constantLong RX4 19 (2000) ∈ WG := wt_3 (i := 106) rfl rfl
theorem mw_643 : Cond.methodLink RX8 188 yX8_weighBlocks ∈ WG := wt_3 (i := 108) rfl rfl
theorem mw_645 : Cond.instanceMethod yX8_weighBlocks ∈ WG := wt_3 (i := 110) rfl rfl
theorem mw_646 : Cond.code yX8_weighBlocks cX8_weighBlocks 2 none ∈ WG := wt_3 (i := 111) rfl rfl
theorem mw_647 : Cond.methodLink RX8 191 yX8_countScannedRows ∈ WG := wt_3 (i := 112) rfl rfl
theorem mw_649 : Cond.instanceMethod yX8_countScannedRows ∈ WG := wt_3 (i := 114) rfl rfl
theorem mw_650 : Cond.code yX8_countScannedRows cX8_countScannedRows 3 (some .int) ∈ WG := wt_3 (i := 115) rfl rfl
theorem mw_651 : Cond.methodLink RX8 194 yX8_blocksRuled ∈ WG := wt_3 (i := 116) rfl rfl
theorem mw_653 : Cond.instanceMethod yX8_blocksRuled ∈ WG := wt_3 (i := 118) rfl rfl
theorem mw_654 : Cond.code yX8_blocksRuled cX8_blocksRuled 4 (some .int) ∈ WG := wt_3 (i := 119) rfl rfl
theorem mw_655 : Cond.methodLink RL 75 yX8_total ∈ WG := wt_3 (i := 120) rfl rfl
theorem mw_656 : Cond.instanceMethod yX8_total ∈ WG := wt_3 (i := 121) rfl rfl
theorem mw_657 : Cond.selects RX8 yX8_total yX8_total ∈ WG := wt_3 (i := 122) rfl rfl
theorem mw_658 : Cond.code yX8_total cX8_total 3 (some .int) ∈ WG := wt_3 (i := 123) rfl rfl
theorem mw_659 : Cond.methodLink RX8 197 yX8_countRowsToRead ∈ WG := wt_3 (i := 124) rfl rfl
theorem mw_661 : Cond.instanceMethod yX8_countRowsToRead ∈ WG := wt_3 (i := 126) rfl rfl
theorem mw_662 : Cond.code yX8_countRowsToRead cX8_countRowsToRead 5 (some .int) ∈ WG := wt_3 (i := 127) rfl rfl
theorem mw_663 : Cond.methodLink RX8 200 yX8_tallyMatches ∈ WG := wt_3 (i := 128) rfl rfl
theorem mw_665 : Cond.instanceMethod yX8_tallyMatches ∈ WG := wt_3 (i := 130) rfl rfl
theorem mw_666 : Cond.code yX8_tallyMatches cX8_tallyMatches 5 none ∈ WG := wt_3 (i := 131) rfl rfl
theorem mw_667 : Cond.methodLink RX8 243 yX7_clear ∈ WG := wt_3 (i := 132) rfl rfl
theorem mw_668 : Cond.methodLink RX8 244 yX7_note ∈ WG := wt_3 (i := 133) rfl rfl
theorem mw_669 : Cond.instanceMethod yX7_note ∈ WG := wt_3 (i := 134) rfl rfl
theorem mw_670 : Cond.selects RX7 yX7_note yX7_note ∈ WG := wt_3 (i := 135) rfl rfl
theorem mw_671 : Cond.code yX7_note cX7_note 2 none ∈ WG := wt_3 (i := 136) rfl rfl
theorem mw_672 : Cond.methodLink RX7 28 Lib.Math.min.name ∈ WG := wt_3 (i := 137) rfl rfl
theorem mw_673 : Cond.methodLink RX7 34 Lib.Math.max.name ∈ WG := wt_3 (i := 138) rfl rfl
theorem mw_674 : Cond.methodLink RL 79 yX8_image ∈ WG := wt_3 (i := 139) rfl rfl
theorem mw_675 : Cond.instanceMethod yX8_image ∈ WG := wt_3 (i := 140) rfl rfl
theorem mw_676 : Cond.selects RX8 yX8_image yX8_image ∈ WG := wt_3 (i := 141) rfl rfl
theorem mw_677 : Cond.code yX8_image cX8_image 2 (some .int) ∈ WG := wt_3 (i := 142) rfl rfl
theorem mw_678 : Cond.methodLink RX8 210 yX8_isImage ∈ WG := wt_3 (i := 143) rfl rfl
theorem mw_679 : Cond.static yX8_isImage ∈ WG := wt_3 (i := 144) rfl rfl
theorem mw_680 : Cond.code yX8_isImage cX8_isImage 1 (some .boolean) ∈ WG := wt_3 (i := 145) rfl rfl
theorem mw_681 : Cond.methodLink RX8 213 yX5_copyFrom ∈ WG := wt_3 (i := 146) rfl rfl
theorem mw_682 : Cond.instanceMethod yX5_copyFrom ∈ WG := wt_3 (i := 147) rfl rfl
theorem mw_683 : Cond.selects RX5 yX5_copyFrom yX5_copyFrom ∈ WG := wt_3 (i := 148) rfl rfl
theorem mw_684 : Cond.code yX5_copyFrom cX5_copyFrom 3 none ∈ WG := wt_3 (i := 149) rfl rfl
theorem mw_685 : Cond.methodLink RX5 22 yX0_copyFrom ∈ WG := wt_3 (i := 150) rfl rfl
theorem mw_686 : Cond.instanceMethod yX0_copyFrom ∈ WG := wt_3 (i := 151) rfl rfl
theorem mw_687 : Cond.selects RX0 yX0_copyFrom yX0_copyFrom ∈ WG := wt_3 (i := 152) rfl rfl
theorem mw_688 : Cond.code yX0_copyFrom cX0_copyFrom 3 none ∈ WG := wt_3 (i := 153) rfl rfl
theorem mw_689 : Cond.methodLink RL 83 yX8_restore ∈ WG := wt_3 (i := 154) rfl rfl
theorem mw_690 : Cond.instanceMethod yX8_restore ∈ WG := wt_3 (i := 155) rfl rfl
theorem mw_691 : Cond.selects RX8 yX8_restore yX8_restore ∈ WG := wt_3 (i := 156) rfl rfl
theorem mw_692 : Cond.code yX8_restore cX8_restore 2 (some .int) ∈ WG := wt_3 (i := 157) rfl rfl
theorem mw_693 : Cond.methodLink RL 87 yX8_told ∈ WG := wt_3 (i := 158) rfl rfl
theorem mw_694 : Cond.instanceMethod yX8_told ∈ WG := wt_3 (i := 159) rfl rfl
theorem mw_695 : Cond.selects RX8 yX8_told yX8_told ∈ WG := wt_3 (i := 160) rfl rfl
theorem mw_696 : Cond.code yX8_told cX8_told 2 (some .int) ∈ WG := wt_3 (i := 161) rfl rfl
theorem mw_697 : Cond.methodLink RX8 217 yX5_countRows ∈ WG := wt_3 (i := 162) rfl rfl
theorem mw_698 : Cond.instanceMethod yX5_countRows ∈ WG := wt_3 (i := 163) rfl rfl
theorem mw_699 : Cond.selects RX5 yX5_countRows yX5_countRows ∈ WG := wt_3 (i := 164) rfl rfl
theorem mw_700 : Cond.code yX5_countRows cX5_countRows 3 (some .int) ∈ WG := wt_3 (i := 165) rfl rfl
theorem mw_701 : Cond.methodLink RX8 220 yX8_countUnlike ∈ WG := wt_3 (i := 166) rfl rfl
theorem mw_703 : Cond.instanceMethod yX8_countUnlike ∈ WG := wt_3 (i := 168) rfl rfl
theorem mw_704 : Cond.code yX8_countUnlike cX8_countUnlike 3 (some .int) ∈ WG := wt_3 (i := 169) rfl rfl
theorem mw_705 : Cond.classLink RL 10 RX9 ∈ WG := wt_3 (i := 170) rfl rfl
theorem mw_706 : Cond.instantiable RX9 18 ∈ WG := wt_3 (i := 171) rfl rfl
theorem mw_707 : Cond.methodLink RL 12 yX9_init ∈ WG := wt_3 (i := 172) rfl rfl
theorem mw_708 : Cond.instanceMethod yX9_init ∈ WG := wt_3 (i := 173) rfl rfl
theorem mw_709 : Cond.code yX9_init cX9_init 2 none ∈ WG := wt_3 (i := 174) rfl rfl
theorem mw_710 : Cond.methodLink RX9 1 objectInit ∈ WG := wt_3 (i := 175) rfl rfl
theorem mw_711 : Cond.methodLink RX9 62 yX9_clear ∈ WG := wt_3 (i := 176) rfl rfl
theorem mw_713 : Cond.instanceMethod yX9_clear ∈ WG := wt_3 (i := 178) rfl rfl
theorem mw_714 : Cond.code yX9_clear cX9_clear 3 none ∈ WG := wt_3 (i := 179) rfl rfl
theorem mw_715 : Cond.constant RX9 74 (-2000000) ∈ WG := wt_3 (i := 180) rfl rfl
theorem mw_716 : Cond.fieldLink RX9 7 "BlockTruthsModel" "rows" "[I" ∈ WG := wt_3 (i := 181) rfl rfl
theorem mw_717 : Cond.fieldLink RX9 13 "BlockTruthsModel" "many" "[I" ∈ WG := wt_3 (i := 182) rfl rfl
theorem mw_718 : Cond.fieldLink RX9 16 "BlockTruthsModel" "known" "[I" ∈ WG := wt_3 (i := 183) rfl rfl
theorem mw_719 : Cond.fieldLink RX9 19 "BlockTruthsModel" "fresh" "[I" ∈ WG := wt_3 (i := 184) rfl rfl
theorem mw_720 : Cond.fieldLink RX9 102 "BlockTruthsModel" "signs" "I" ∈ WG := wt_3 (i := 185) rfl rfl
theorem mw_721 : Cond.fieldLink RX9 22 "BlockTruthsModel" "pad" "[I" ∈ WG := wt_3 (i := 186) rfl rfl
theorem mw_722 : Cond.fieldLink RX9 25 "BlockTruthsModel" "kind" "[I" ∈ WG := wt_3 (i := 187) rfl rfl
theorem mw_723 : Cond.fieldLink RX9 28 "BlockTruthsModel" "first" "[I" ∈ WG := wt_3 (i := 188) rfl rfl
theorem mw_724 : Cond.fieldLink RX9 31 "BlockTruthsModel" "second" "[I" ∈ WG := wt_3 (i := 189) rfl rfl
theorem mw_725 : Cond.fieldLink RX9 34 "BlockTruthsModel" "end" "[I" ∈ WG := wt_3 (i := 190) rfl rfl
theorem mw_726 : Cond.fieldLink RX9 37 "BlockTruthsModel" "must" "[I" ∈ WG := wt_3 (i := 191) rfl rfl
theorem mw_727 : Cond.fieldLink RX9 40 "BlockTruthsModel" "worth" "[I" ∈ WG := wt_3 (i := 192) rfl rfl
theorem mw_728 : Cond.fieldLink RX9 43 "BlockTruthsModel" "cells" "[I" ∈ WG := wt_3 (i := 193) rfl rfl
theorem mw_729 : Cond.fieldLink RX9 46 "BlockTruthsModel" "maybe" "[I" ∈ WG := wt_3 (i := 194) rfl rfl
theorem mw_730 : Cond.fieldLink RX9 49 "BlockTruthsModel" "low" "[I" ∈ WG := wt_3 (i := 195) rfl rfl
theorem mw_731 : Cond.fieldLink RX9 52 "BlockTruthsModel" "high" "[I" ∈ WG := wt_3 (i := 196) rfl rfl
theorem mw_732 : Cond.fieldLink RX9 55 "BlockTruthsModel" "image" "[I" ∈ WG := wt_3 (i := 197) rfl rfl
theorem mw_733 : Cond.fieldLink RX9 58 "BlockTruthsModel" "isKept" "[Z" ∈ WG := wt_3 (i := 198) rfl rfl
theorem mw_772 : Cond.methodLink RL 17 yX9_add ∈ WG := wt_3 (i := 237) rfl rfl
theorem mw_773 : Cond.instanceMethod yX9_add ∈ WG := wt_3 (i := 238) rfl rfl
theorem mw_774 : Cond.selects RX9 yX9_add yX9_add ∈ WG := wt_3 (i := 239) rfl rfl
theorem mw_775 : Cond.code yX9_add cX9_add 8 (some .int) ∈ WG := wt_4 (i := 0) rfl rfl
theorem mw_776 : Cond.methodLink RX9 70 yX9_isBlock ∈ WG := wt_4 (i := 1) rfl rfl
theorem mw_777 : Cond.static yX9_isBlock ∈ WG := wt_4 (i := 2) rfl rfl
theorem mw_778 : Cond.code yX9_isBlock cX9_isBlock 1 (some .boolean) ∈ WG := wt_4 (i := 3) rfl rfl
theorem mw_779 : Cond.methodLink RX9 66 yX9_in ∈ WG := wt_4 (i := 4) rfl rfl
theorem mw_780 : Cond.static yX9_in ∈ WG := wt_4 (i := 5) rfl rfl
theorem mw_781 : Cond.code yX9_in cX9_in 3 (some .boolean) ∈ WG := wt_4 (i := 6) rfl rfl
theorem mw_782 : Cond.methodLink RX9 79 yX9_come ∈ WG := wt_4 (i := 7) rfl rfl
theorem mw_784 : Cond.instanceMethod yX9_come ∈ WG := wt_4 (i := 9) rfl rfl
theorem mw_785 : Cond.code yX9_come cX9_come 5 none ∈ WG := wt_4 (i := 10) rfl rfl
theorem mw_786 : Cond.methodLink RX9 75 yX9_placeOf ∈ WG := wt_4 (i := 11) rfl rfl
theorem mw_788 : Cond.instanceMethod yX9_placeOf ∈ WG := wt_4 (i := 13) rfl rfl
theorem mw_789 : Cond.code yX9_placeOf cX9_placeOf 4 (some .int) ∈ WG := wt_4 (i := 14) rfl rfl
theorem mw_790 : Cond.methodLink RL 22 yX9_drop ∈ WG := wt_4 (i := 15) rfl rfl
theorem mw_791 : Cond.instanceMethod yX9_drop ∈ WG := wt_4 (i := 16) rfl rfl
theorem mw_792 : Cond.selects RX9 yX9_drop yX9_drop ∈ WG := wt_4 (i := 17) rfl rfl
theorem mw_793 : Cond.code yX9_drop cX9_drop 6 (some .int) ∈ WG := wt_4 (i := 18) rfl rfl
theorem mw_794 : Cond.methodLink RX9 83 yX9_isRow ∈ WG := wt_4 (i := 19) rfl rfl
theorem mw_796 : Cond.instanceMethod yX9_isRow ∈ WG := wt_4 (i := 21) rfl rfl
theorem mw_797 : Cond.code yX9_isRow cX9_isRow 3 (some .boolean) ∈ WG := wt_4 (i := 22) rfl rfl
theorem mw_798 : Cond.methodLink RX9 87 yX9_at ∈ WG := wt_4 (i := 23) rfl rfl
theorem mw_800 : Cond.instanceMethod yX9_at ∈ WG := wt_4 (i := 25) rfl rfl
theorem mw_801 : Cond.code yX9_at cX9_at 4 (some .int) ∈ WG := wt_4 (i := 26) rfl rfl
theorem mw_802 : Cond.methodLink RL 27 yX9_anew ∈ WG := wt_4 (i := 27) rfl rfl
theorem mw_803 : Cond.instanceMethod yX9_anew ∈ WG := wt_4 (i := 28) rfl rfl
theorem mw_804 : Cond.selects RX9 yX9_anew yX9_anew ∈ WG := wt_4 (i := 29) rfl rfl
theorem mw_805 : Cond.code yX9_anew cX9_anew 4 (some .int) ∈ WG := wt_4 (i := 30) rfl rfl
theorem mw_806 : Cond.methodLink RX9 94 yX9_isStale ∈ WG := wt_4 (i := 31) rfl rfl
theorem mw_808 : Cond.instanceMethod yX9_isStale ∈ WG := wt_4 (i := 33) rfl rfl
theorem mw_809 : Cond.code yX9_isStale cX9_isStale 6 (some .boolean) ∈ WG := wt_4 (i := 34) rfl rfl
theorem mw_810 : Cond.methodLink RX9 91 yX9_makeAnew ∈ WG := wt_4 (i := 35) rfl rfl
theorem mw_812 : Cond.instanceMethod yX9_makeAnew ∈ WG := wt_4 (i := 37) rfl rfl
theorem mw_813 : Cond.code yX9_makeAnew cX9_makeAnew 4 none ∈ WG := wt_4 (i := 38) rfl rfl
theorem mw_814 : Cond.methodLink RL 32 yX9_cell ∈ WG := wt_4 (i := 39) rfl rfl
theorem mw_815 : Cond.instanceMethod yX9_cell ∈ WG := wt_4 (i := 40) rfl rfl
theorem mw_816 : Cond.selects RX9 yX9_cell yX9_cell ∈ WG := wt_4 (i := 41) rfl rfl
theorem mw_817 : Cond.code yX9_cell cX9_cell 4 (some .int) ∈ WG := wt_4 (i := 42) rfl rfl
theorem mw_818 : Cond.methodLink RX9 97 yX9_isColumn ∈ WG := wt_4 (i := 43) rfl rfl
theorem mw_819 : Cond.static yX9_isColumn ∈ WG := wt_4 (i := 44) rfl rfl
theorem mw_820 : Cond.code yX9_isColumn cX9_isColumn 1 (some .boolean) ∈ WG := wt_4 (i := 45) rfl rfl
theorem mw_821 : Cond.constant RX9 100 (-3000001) ∈ WG := wt_4 (i := 46) rfl rfl
theorem mw_822 : Cond.methodLink RL 36 yX9_summary ∈ WG := wt_4 (i := 47) rfl rfl
theorem mw_823 : Cond.instanceMethod yX9_summary ∈ WG := wt_4 (i := 48) rfl rfl
theorem mw_824 : Cond.selects RX9 yX9_summary yX9_summary ∈ WG := wt_4 (i := 49) rfl rfl
theorem mw_825 : Cond.code yX9_summary cX9_summary 5 (some .int) ∈ WG := wt_4 (i := 50) rfl rfl
theorem mw_826 : Cond.constant RX9 101 (-3000002) ∈ WG := wt_4 (i := 51) rfl rfl
theorem mw_827 : Cond.methodLink RL 41 yX9_listed ∈ WG := wt_4 (i := 52) rfl rfl
theorem mw_828 : Cond.instanceMethod yX9_listed ∈ WG := wt_4 (i := 53) rfl rfl
theorem mw_829 : Cond.selects RX9 yX9_listed yX9_listed ∈ WG := wt_4 (i := 54) rfl rfl
theorem mw_830 : Cond.code yX9_listed cX9_listed 6 (some .int) ∈ WG := wt_4 (i := 55) rfl rfl
theorem mw_831 : Cond.methodLink RL 45 yX9_say ∈ WG := wt_4 (i := 56) rfl rfl
theorem mw_832 : Cond.instanceMethod yX9_say ∈ WG := wt_4 (i := 57) rfl rfl
theorem mw_833 : Cond.selects RX9 yX9_say yX9_say ∈ WG := wt_4 (i := 58) rfl rfl
theorem mw_834 : Cond.code yX9_say cX9_say 2 (some .int) ∈ WG := wt_4 (i := 59) rfl rfl
theorem mw_835 : Cond.methodLink RL 50 yX9_wipe ∈ WG := wt_4 (i := 60) rfl rfl
theorem mw_836 : Cond.instanceMethod yX9_wipe ∈ WG := wt_4 (i := 61) rfl rfl
theorem mw_837 : Cond.selects RX9 yX9_wipe yX9_wipe ∈ WG := wt_4 (i := 62) rfl rfl
theorem mw_838 : Cond.code yX9_wipe cX9_wipe 2 (some .int) ∈ WG := wt_4 (i := 63) rfl rfl
theorem mw_839 : Cond.methodLink RL 54 yX9_fault ∈ WG := wt_4 (i := 64) rfl rfl
theorem mw_840 : Cond.instanceMethod yX9_fault ∈ WG := wt_4 (i := 65) rfl rfl
theorem mw_841 : Cond.selects RX9 yX9_fault yX9_fault ∈ WG := wt_4 (i := 66) rfl rfl
theorem mw_842 : Cond.code yX9_fault cX9_fault 1 (some .int) ∈ WG := wt_4 (i := 67) rfl rfl
theorem mw_843 : Cond.methodLink RX9 116 yX9_read ∈ WG := wt_4 (i := 68) rfl rfl
theorem mw_845 : Cond.instanceMethod yX9_read ∈ WG := wt_4 (i := 70) rfl rfl
theorem mw_846 : Cond.code yX9_read cX9_read 7 (some .int) ∈ WG := wt_4 (i := 71) rfl rfl
theorem mw_847 : Cond.methodLink RX9 106 yX9_truthOf ∈ WG := wt_4 (i := 72) rfl rfl
theorem mw_848 : Cond.static yX9_truthOf ∈ WG := wt_4 (i := 73) rfl rfl
theorem mw_849 : Cond.code yX9_truthOf cX9_truthOf 1 (some .int) ∈ WG := wt_4 (i := 74) rfl rfl
theorem mw_850 : Cond.methodLink RX9 110 yX9_termOf ∈ WG := wt_4 (i := 75) rfl rfl
theorem mw_851 : Cond.static yX9_termOf ∈ WG := wt_4 (i := 76) rfl rfl
theorem mw_852 : Cond.code yX9_termOf cX9_termOf 1 (some .int) ∈ WG := wt_4 (i := 77) rfl rfl
theorem mw_853 : Cond.methodLink RX9 113 yX9_inner ∈ WG := wt_4 (i := 78) rfl rfl
theorem mw_854 : Cond.static yX9_inner ∈ WG := wt_4 (i := 79) rfl rfl
theorem mw_855 : Cond.code yX9_inner cX9_inner 1 (some .int) ∈ WG := wt_4 (i := 80) rfl rfl
theorem mw_856 : Cond.methodLink RL 58 yX9_truth ∈ WG := wt_4 (i := 81) rfl rfl
theorem mw_857 : Cond.instanceMethod yX9_truth ∈ WG := wt_4 (i := 82) rfl rfl
theorem mw_858 : Cond.selects RX9 yX9_truth yX9_truth ∈ WG := wt_4 (i := 83) rfl rfl
theorem mw_859 : Cond.code yX9_truth cX9_truth 3 (some .int) ∈ WG := wt_4 (i := 84) rfl rfl
theorem mw_860 : Cond.methodLink RX9 157 yX9_truthOfRow ∈ WG := wt_4 (i := 85) rfl rfl
theorem mw_862 : Cond.instanceMethod yX9_truthOfRow ∈ WG := wt_4 (i := 87) rfl rfl
theorem mw_863 : Cond.code yX9_truthOfRow cX9_truthOfRow 4 (some .int) ∈ WG := wt_4 (i := 88) rfl rfl
theorem mw_864 : Cond.methodLink RX9 154 yX9_layRow ∈ WG := wt_4 (i := 89) rfl rfl
theorem mw_866 : Cond.instanceMethod yX9_layRow ∈ WG := wt_4 (i := 91) rfl rfl
theorem mw_867 : Cond.code yX9_layRow cX9_layRow 2 none ∈ WG := wt_4 (i := 92) rfl rfl
theorem mw_868 : Cond.methodLink RX9 126 yX9_isTerm ∈ WG := wt_4 (i := 93) rfl rfl
theorem mw_870 : Cond.instanceMethod yX9_isTerm ∈ WG := wt_4 (i := 95) rfl rfl
theorem mw_871 : Cond.code yX9_isTerm cX9_isTerm 2 (some .boolean) ∈ WG := wt_4 (i := 96) rfl rfl
theorem mw_872 : Cond.methodLink RX9 129 yX9_number ∈ WG := wt_4 (i := 97) rfl rfl
theorem mw_874 : Cond.instanceMethod yX9_number ∈ WG := wt_4 (i := 99) rfl rfl
theorem mw_875 : Cond.code yX9_number cX9_number 5 (some .int) ∈ WG := wt_4 (i := 100) rfl rfl
theorem mw_876 : Cond.methodLink RX9 135 yX9_three ∈ WG := wt_4 (i := 101) rfl rfl
theorem mw_878 : Cond.instanceMethod yX9_three ∈ WG := wt_4 (i := 103) rfl rfl
theorem mw_879 : Cond.code yX9_three cX9_three 2 (some .int) ∈ WG := wt_4 (i := 104) rfl rfl
theorem mw_880 : Cond.methodLink RX9 138 yX9_cut ∈ WG := wt_4 (i := 105) rfl rfl
theorem mw_881 : Cond.static yX9_cut ∈ WG := wt_4 (i := 106) rfl rfl
theorem mw_882 : Cond.code yX9_cut cX9_cut 2 (some .int) ∈ WG := wt_4 (i := 107) rfl rfl
theorem mw_883 : Cond.constantLong RX9 120 (-1000000) ∈ WG := wt_4 (i := 108) rfl rfl
theorem mw_884 : Cond.constant RX9 122 (-1000000) ∈ WG := wt_4 (i := 109) rfl rfl
theorem mw_885 : Cond.constantLong RX9 123 (1000000) ∈ WG := wt_4 (i := 110) rfl rfl
theorem mw_886 : Cond.constant RX9 125 (1000000) ∈ WG := wt_4 (i := 111) rfl rfl
theorem mw_887 : Cond.methodLink RX9 142 yX9_byteOf ∈ WG := wt_4 (i := 112) rfl rfl
theorem mw_888 : Cond.static yX9_byteOf ∈ WG := wt_4 (i := 113) rfl rfl
theorem mw_889 : Cond.code yX9_byteOf cX9_byteOf 2 (some .int) ∈ WG := wt_4 (i := 114) rfl rfl
theorem mw_890 : Cond.methodLink RX9 132 yX9_truthAt ∈ WG := wt_4 (i := 115) rfl rfl
theorem mw_892 : Cond.instanceMethod yX9_truthAt ∈ WG := wt_4 (i := 117) rfl rfl
theorem mw_893 : Cond.code yX9_truthAt cX9_truthAt 4 (some .int) ∈ WG := wt_4 (i := 118) rfl rfl
theorem mw_894 : Cond.methodLink RX9 148 yX9_both ∈ WG := wt_4 (i := 119) rfl rfl
theorem mw_895 : Cond.static yX9_both ∈ WG := wt_4 (i := 120) rfl rfl
theorem mw_896 : Cond.code yX9_both cX9_both 2 (some .int) ∈ WG := wt_4 (i := 121) rfl rfl
theorem mw_897 : Cond.methodLink RX9 151 yX9_either ∈ WG := wt_4 (i := 122) rfl rfl
theorem mw_898 : Cond.static yX9_either ∈ WG := wt_4 (i := 123) rfl rfl
theorem mw_899 : Cond.code yX9_either cX9_either 2 (some .int) ∈ WG := wt_4 (i := 124) rfl rfl
theorem mw_900 : Cond.methodLink RX9 145 yX9_not ∈ WG := wt_4 (i := 125) rfl rfl
theorem mw_901 : Cond.static yX9_not ∈ WG := wt_4 (i := 126) rfl rfl
theorem mw_902 : Cond.code yX9_not cX9_not 1 (some .int) ∈ WG := wt_4 (i := 127) rfl rfl
theorem mw_903 : Cond.methodLink RL 62 yX9_range ∈ WG := wt_4 (i := 128) rfl rfl
theorem mw_904 : Cond.instanceMethod yX9_range ∈ WG := wt_4 (i := 129) rfl rfl
theorem mw_905 : Cond.selects RX9 yX9_range yX9_range ∈ WG := wt_4 (i := 130) rfl rfl
theorem mw_906 : Cond.code yX9_range cX9_range 5 (some .int) ∈ WG := wt_4 (i := 131) rfl rfl
theorem mw_907 : Cond.constant RX9 169 (-3000005) ∈ WG := wt_4 (i := 132) rfl rfl
theorem mw_908 : Cond.constant RX9 170 (-3000003) ∈ WG := wt_4 (i := 133) rfl rfl
theorem mw_909 : Cond.methodLink RX9 171 yX9_layBlock ∈ WG := wt_4 (i := 134) rfl rfl
theorem mw_911 : Cond.instanceMethod yX9_layBlock ∈ WG := wt_4 (i := 136) rfl rfl
theorem mw_912 : Cond.code yX9_layBlock cX9_layBlock 3 none ∈ WG := wt_4 (i := 137) rfl rfl
theorem mw_913 : Cond.methodLink RX9 160 yX9_layRange ∈ WG := wt_4 (i := 138) rfl rfl
theorem mw_915 : Cond.instanceMethod yX9_layRange ∈ WG := wt_4 (i := 140) rfl rfl
theorem mw_916 : Cond.code yX9_layRange cX9_layRange 22 none ∈ WG := wt_4 (i := 141) rfl rfl
theorem mw_917 : Cond.methodLink RX9 163 yX9_mayAt ∈ WG := wt_4 (i := 142) rfl rfl
theorem mw_919 : Cond.instanceMethod yX9_mayAt ∈ WG := wt_4 (i := 144) rfl rfl
theorem mw_920 : Cond.code yX9_mayAt cX9_mayAt 9 (some .int) ∈ WG := wt_4 (i := 145) rfl rfl
theorem mw_921 : Cond.methodLink RX9 166 yX9_bit ∈ WG := wt_4 (i := 146) rfl rfl
theorem mw_922 : Cond.static yX9_bit ∈ WG := wt_4 (i := 147) rfl rfl
theorem mw_923 : Cond.code yX9_bit cX9_bit 1 (some .int) ∈ WG := wt_4 (i := 148) rfl rfl
theorem mw_924 : Cond.methodLink RL 66 yX9_may ∈ WG := wt_4 (i := 149) rfl rfl
theorem mw_925 : Cond.instanceMethod yX9_may ∈ WG := wt_4 (i := 150) rfl rfl
theorem mw_926 : Cond.selects RX9 yX9_may yX9_may ∈ WG := wt_4 (i := 151) rfl rfl
theorem mw_927 : Cond.code yX9_may cX9_may 3 (some .int) ∈ WG := wt_4 (i := 152) rfl rfl
theorem mw_928 : Cond.methodLink RL 70 yX9_verdict ∈ WG := wt_4 (i := 153) rfl rfl
theorem mw_929 : Cond.instanceMethod yX9_verdict ∈ WG := wt_4 (i := 154) rfl rfl
theorem mw_930 : Cond.selects RX9 yX9_verdict yX9_verdict ∈ WG := wt_4 (i := 155) rfl rfl
theorem mw_931 : Cond.code yX9_verdict cX9_verdict 3 (some .int) ∈ WG := wt_4 (i := 156) rfl rfl
theorem mw_932 : Cond.methodLink RX9 180 yX9_verdictOf ∈ WG := wt_4 (i := 157) rfl rfl
theorem mw_934 : Cond.instanceMethod yX9_verdictOf ∈ WG := wt_4 (i := 159) rfl rfl
theorem mw_935 : Cond.code yX9_verdictOf cX9_verdictOf 3 (some .int) ∈ WG := wt_4 (i := 160) rfl rfl
theorem mw_936 : Cond.methodLink RX9 177 yX9_mayOf ∈ WG := wt_4 (i := 161) rfl rfl
theorem mw_938 : Cond.instanceMethod yX9_mayOf ∈ WG := wt_4 (i := 163) rfl rfl
theorem mw_939 : Cond.code yX9_mayOf cX9_mayOf 7 (some .int) ∈ WG := wt_4 (i := 164) rfl rfl
theorem mw_940 : Cond.methodLink RX9 174 yX9_onlyColumn ∈ WG := wt_4 (i := 165) rfl rfl
theorem mw_942 : Cond.instanceMethod yX9_onlyColumn ∈ WG := wt_4 (i := 167) rfl rfl
theorem mw_943 : Cond.code yX9_onlyColumn cX9_onlyColumn 4 (some .int) ∈ WG := wt_4 (i := 168) rfl rfl
theorem mw_944 : Cond.methodLink RL 74 yX9_answer ∈ WG := wt_4 (i := 169) rfl rfl
theorem mw_945 : Cond.instanceMethod yX9_answer ∈ WG := wt_4 (i := 170) rfl rfl
theorem mw_946 : Cond.selects RX9 yX9_answer yX9_answer ∈ WG := wt_4 (i := 171) rfl rfl
theorem mw_947 : Cond.code yX9_answer cX9_answer 12 (some .int) ∈ WG := wt_4 (i := 172) rfl rfl
theorem mw_948 : Cond.methodLink RX9 183 yX9_isLike ∈ WG := wt_4 (i := 173) rfl rfl
theorem mw_950 : Cond.instanceMethod yX9_isLike ∈ WG := wt_4 (i := 175) rfl rfl
theorem mw_951 : Cond.code yX9_isLike cX9_isLike 7 (some .boolean) ∈ WG := wt_4 (i := 176) rfl rfl
theorem mw_952 : Cond.methodLink RL 78 yX9_total ∈ WG := wt_4 (i := 177) rfl rfl
theorem mw_953 : Cond.instanceMethod yX9_total ∈ WG := wt_4 (i := 178) rfl rfl
theorem mw_954 : Cond.selects RX9 yX9_total yX9_total ∈ WG := wt_4 (i := 179) rfl rfl
theorem mw_955 : Cond.code yX9_total cX9_total 12 (some .int) ∈ WG := wt_4 (i := 180) rfl rfl
theorem mw_956 : Cond.methodLink RL 82 yX9_image ∈ WG := wt_4 (i := 181) rfl rfl
theorem mw_957 : Cond.instanceMethod yX9_image ∈ WG := wt_4 (i := 182) rfl rfl
theorem mw_958 : Cond.selects RX9 yX9_image yX9_image ∈ WG := wt_4 (i := 183) rfl rfl
theorem mw_959 : Cond.code yX9_image cX9_image 4 (some .int) ∈ WG := wt_4 (i := 184) rfl rfl
theorem mw_960 : Cond.methodLink RL 86 yX9_restore ∈ WG := wt_4 (i := 185) rfl rfl
theorem mw_961 : Cond.instanceMethod yX9_restore ∈ WG := wt_4 (i := 186) rfl rfl
theorem mw_962 : Cond.selects RX9 yX9_restore yX9_restore ∈ WG := wt_4 (i := 187) rfl rfl
theorem mw_963 : Cond.code yX9_restore cX9_restore 4 (some .int) ∈ WG := wt_4 (i := 188) rfl rfl
theorem mw_964 : Cond.methodLink RL 90 yX9_told ∈ WG := wt_4 (i := 189) rfl rfl
theorem mw_965 : Cond.instanceMethod yX9_told ∈ WG := wt_4 (i := 190) rfl rfl
theorem mw_966 : Cond.selects RX9 yX9_told yX9_told ∈ WG := wt_4 (i := 191) rfl rfl
theorem mw_967 : Cond.code yX9_told cX9_told 7 (some .int) ∈ WG := wt_4 (i := 192) rfl rfl
end
section
theorem dX0_init_0 : decode cX0_init 0 = .ok (.aload_n 0, 1) := by decide +kernel
theorem dX0_init_1 : decode cX0_init 1 = .ok (.invokespecial 3, 3) := by decide +kernel
theorem dX0_init_4 : decode cX0_init 4 = .ok (.aload_n 0, 1) := by decide +kernel
theorem dX0_init_5 : decode cX0_init 5 = .ok (.bipush 8, 2) := by decide +kernel
theorem dX0_init_7 : decode cX0_init 7 = .ok (.iconst 4, 1) := by decide +kernel
theorem dX0_init_8 : decode cX0_init 8 = .ok (.multianewarray 9 2, 4) := by decide +kernel
theorem dX0_init_12 : decode cX0_init 12 = .ok (.putfield 11, 3) := by decide +kernel
theorem dX0_init_15 : decode cX0_init 15 = .ok (.aload_n 0, 1) := by decide +kernel
theorem dX0_init_16 : decode cX0_init 16 = .ok (.iconst 4, 1) := by decide +kernel
theorem dX0_init_17 : decode cX0_init 17 = .ok (.anewarray 16, 3) := by decide +kernel
theorem dX0_init_20 : decode cX0_init 20 = .ok (.putfield 18, 3) := by decide +kernel
theorem dX0_init_23 : decode cX0_init 23 = .ok (.iconst 0, 1) := by decide +kernel
theorem dX0_init_24 : decode cX0_init 24 = .ok (.istore_n 1, 1) := by decide +kernel
theorem dX0_init_25 : decode cX0_init 25 = .ok (.iload_n 1, 1) := by decide +kernel
theorem dX0_init_26 : decode cX0_init 26 = .ok (.iconst 4, 1) := by decide +kernel
theorem dX0_init_27 : decode cX0_init 27 = .ok (.if_icmp .ge 22, 3) := by decide +kernel
theorem dX0_init_30 : decode cX0_init 30 = .ok (.aload_n 0, 1) := by decide +kernel
theorem dX0_init_31 : decode cX0_init 31 = .ok (.getfield 18, 3) := by decide +kernel
theorem dX0_init_34 : decode cX0_init 34 = .ok (.iload_n 1, 1) := by decide +kernel
theorem dX0_init_35 : decode cX0_init 35 = .ok (.new 16, 3) := by decide +kernel
theorem dX0_init_38 : decode cX0_init 38 = .ok (.dup, 1) := by decide +kernel
theorem dX0_init_39 : decode cX0_init 39 = .ok (.invokespecial 22, 3) := by decide +kernel
theorem dX0_init_42 : decode cX0_init 42 = .ok (.aastore, 1) := by decide +kernel
theorem dX0_init_43 : decode cX0_init 43 = .ok (.iinc 1 1, 3) := by decide +kernel
theorem dX0_init_46 : decode cX0_init 46 = .ok (.goto (-21), 3) := by decide +kernel
theorem dX0_init_49 : decode cX0_init 49 = .ok (.aload_n 0, 1) := by decide +kernel
theorem dX0_init_50 : decode cX0_init 50 = .ok (.new 16, 3) := by decide +kernel
theorem dX0_init_53 : decode cX0_init 53 = .ok (.dup, 1) := by decide +kernel
theorem dX0_init_54 : decode cX0_init 54 = .ok (.invokespecial 22, 3) := by decide +kernel
theorem dX0_init_57 : decode cX0_init 57 = .ok (.putfield 23, 3) := by decide +kernel
theorem dX0_init_60 : decode cX0_init 60 = .ok (.return_, 1) := by decide +kernel
theorem dX0_append_0 : decode cX0_append 0 = .ok (.aload_n 0, 1) := by decide +kernel
theorem dX0_append_1 : decode cX0_append 1 = .ok (.getfield 27, 3) := by decide +kernel
theorem dX0_append_4 : decode cX0_append 4 = .ok (.bipush 8, 2) := by decide +kernel
theorem dX0_append_6 : decode cX0_append 6 = .ok (.if_icmp .lt 6, 3) := by decide +kernel
theorem dX0_append_9 : decode cX0_append 9 = .ok (.bipush (-4), 2) := by decide +kernel
theorem dX0_append_11 : decode cX0_append 11 = .ok (.ireturn, 1) := by decide +kernel
theorem dX0_append_12 : decode cX0_append 12 = .ok (.aload_n 0, 1) := by decide +kernel
theorem dX0_append_13 : decode cX0_append 13 = .ok (.getfield 11, 3) := by decide +kernel
theorem dX0_append_16 : decode cX0_append 16 = .ok (.aload_n 0, 1) := by decide +kernel
theorem dX0_append_17 : decode cX0_append 17 = .ok (.getfield 27, 3) := by decide +kernel
theorem dX0_append_20 : decode cX0_append 20 = .ok (.aaload, 1) := by decide +kernel
theorem dX0_append_21 : decode cX0_append 21 = .ok (.astore 5, 2) := by decide +kernel
theorem dX0_append_23 : decode cX0_append 23 = .ok (.aload 5, 2) := by decide +kernel
theorem dX0_append_25 : decode cX0_append 25 = .ok (.iconst 0, 1) := by decide +kernel
theorem dX0_append_26 : decode cX0_append 26 = .ok (.iload_n 1, 1) := by decide +kernel
theorem dX0_append_27 : decode cX0_append 27 = .ok (.iastore, 1) := by decide +kernel
theorem dX0_append_28 : decode cX0_append 28 = .ok (.aload 5, 2) := by decide +kernel
theorem dX0_append_30 : decode cX0_append 30 = .ok (.iconst 1, 1) := by decide +kernel
theorem dX0_append_31 : decode cX0_append 31 = .ok (.iload_n 2, 1) := by decide +kernel
theorem dX0_append_32 : decode cX0_append 32 = .ok (.iastore, 1) := by decide +kernel
theorem dX0_append_33 : decode cX0_append 33 = .ok (.aload 5, 2) := by decide +kernel
theorem dX0_append_35 : decode cX0_append 35 = .ok (.iconst 2, 1) := by decide +kernel
theorem dX0_append_36 : decode cX0_append 36 = .ok (.iload_n 3, 1) := by decide +kernel
theorem dX0_append_37 : decode cX0_append 37 = .ok (.iastore, 1) := by decide +kernel
theorem dX0_append_38 : decode cX0_append 38 = .ok (.aload 5, 2) := by decide +kernel
theorem dX0_append_40 : decode cX0_append 40 = .ok (.iconst 3, 1) := by decide +kernel
theorem dX0_append_41 : decode cX0_append 41 = .ok (.iload 4, 2) := by decide +kernel
theorem dX0_append_43 : decode cX0_append 43 = .ok (.iastore, 1) := by decide +kernel
theorem dX0_append_44 : decode cX0_append 44 = .ok (.iconst 0, 1) := by decide +kernel
theorem dX0_append_45 : decode cX0_append 45 = .ok (.istore 6, 2) := by decide +kernel
theorem dX0_append_47 : decode cX0_append 47 = .ok (.iload 6, 2) := by decide +kernel
theorem dX0_append_49 : decode cX0_append 49 = .ok (.iconst 4, 1) := by decide +kernel
theorem dX0_append_50 : decode cX0_append 50 = .ok (.if_icmp .ge 24, 3) := by decide +kernel
theorem dX0_append_53 : decode cX0_append 53 = .ok (.aload_n 0, 1) := by decide +kernel
theorem dX0_append_54 : decode cX0_append 54 = .ok (.getfield 18, 3) := by decide +kernel
theorem dX0_append_57 : decode cX0_append 57 = .ok (.iload 6, 2) := by decide +kernel
theorem dX0_append_59 : decode cX0_append 59 = .ok (.aaload, 1) := by decide +kernel
theorem dX0_append_60 : decode cX0_append 60 = .ok (.aload 5, 2) := by decide +kernel
theorem dX0_append_62 : decode cX0_append 62 = .ok (.iload 6, 2) := by decide +kernel
theorem dX0_append_64 : decode cX0_append 64 = .ok (.iaload, 1) := by decide +kernel
theorem dX0_append_65 : decode cX0_append 65 = .ok (.invokevirtual 31, 3) := by decide +kernel
theorem dX0_append_68 : decode cX0_append 68 = .ok (.iinc 6 1, 3) := by decide +kernel
theorem dX0_append_71 : decode cX0_append 71 = .ok (.goto (-24), 3) := by decide +kernel
theorem dX0_append_74 : decode cX0_append 74 = .ok (.aload_n 0, 1) := by decide +kernel
theorem dX0_append_75 : decode cX0_append 75 = .ok (.dup, 1) := by decide +kernel
theorem dX0_append_76 : decode cX0_append 76 = .ok (.getfield 27, 3) := by decide +kernel
theorem dX0_append_79 : decode cX0_append 79 = .ok (.iconst 1, 1) := by decide +kernel
theorem dX0_append_80 : decode cX0_append 80 = .ok (.iadd, 1) := by decide +kernel
theorem dX0_append_81 : decode cX0_append 81 = .ok (.putfield 27, 3) := by decide +kernel
theorem dX0_append_84 : decode cX0_append 84 = .ok (.aload_n 0, 1) := by decide +kernel
theorem dX0_append_85 : decode cX0_append 85 = .ok (.getfield 27, 3) := by decide +kernel
theorem dX0_append_88 : decode cX0_append 88 = .ok (.ireturn, 1) := by decide +kernel
theorem dX0_remove_0 : decode cX0_remove 0 = .ok (.iconst 0, 1) := by decide +kernel
theorem dX0_remove_1 : decode cX0_remove 1 = .ok (.istore_n 2, 1) := by decide +kernel
theorem dX0_remove_2 : decode cX0_remove 2 = .ok (.iload_n 2, 1) := by decide +kernel
theorem dX0_remove_3 : decode cX0_remove 3 = .ok (.iconst 4, 1) := by decide +kernel
theorem dX0_remove_4 : decode cX0_remove 4 = .ok (.if_icmp .ge 26, 3) := by decide +kernel
theorem dX0_remove_7 : decode cX0_remove 7 = .ok (.aload_n 0, 1) := by decide +kernel
theorem dX0_remove_8 : decode cX0_remove 8 = .ok (.getfield 18, 3) := by decide +kernel
theorem dX0_remove_11 : decode cX0_remove 11 = .ok (.iload_n 2, 1) := by decide +kernel
theorem dX0_remove_12 : decode cX0_remove 12 = .ok (.aaload, 1) := by decide +kernel
theorem dX0_remove_13 : decode cX0_remove 13 = .ok (.aload_n 0, 1) := by decide +kernel
theorem dX0_remove_14 : decode cX0_remove 14 = .ok (.getfield 11, 3) := by decide +kernel
theorem dX0_remove_17 : decode cX0_remove 17 = .ok (.iload_n 1, 1) := by decide +kernel
theorem dX0_remove_18 : decode cX0_remove 18 = .ok (.aaload, 1) := by decide +kernel
theorem dX0_remove_19 : decode cX0_remove 19 = .ok (.iload_n 2, 1) := by decide +kernel
theorem dX0_remove_20 : decode cX0_remove 20 = .ok (.iaload, 1) := by decide +kernel
theorem dX0_remove_21 : decode cX0_remove 21 = .ok (.invokevirtual 35, 3) := by decide +kernel
theorem dX0_remove_24 : decode cX0_remove 24 = .ok (.iinc 2 1, 3) := by decide +kernel
theorem dX0_remove_27 : decode cX0_remove 27 = .ok (.goto (-25), 3) := by decide +kernel
theorem dX0_remove_30 : decode cX0_remove 30 = .ok (.iload_n 1, 1) := by decide +kernel
theorem dX0_remove_31 : decode cX0_remove 31 = .ok (.iconst 1, 1) := by decide +kernel
theorem dX0_remove_32 : decode cX0_remove 32 = .ok (.iadd, 1) := by decide +kernel
theorem dX0_remove_33 : decode cX0_remove 33 = .ok (.istore_n 2, 1) := by decide +kernel
theorem dX0_remove_34 : decode cX0_remove 34 = .ok (.iload_n 2, 1) := by decide +kernel
theorem dX0_remove_35 : decode cX0_remove 35 = .ok (.aload_n 0, 1) := by decide +kernel
theorem dX0_remove_36 : decode cX0_remove 36 = .ok (.getfield 27, 3) := by decide +kernel
theorem dX0_remove_39 : decode cX0_remove 39 = .ok (.if_icmp .ge 29, 3) := by decide +kernel
theorem dX0_remove_42 : decode cX0_remove 42 = .ok (.aload_n 0, 1) := by decide +kernel
theorem dX0_remove_43 : decode cX0_remove 43 = .ok (.getfield 11, 3) := by decide +kernel
theorem dX0_remove_46 : decode cX0_remove 46 = .ok (.iload_n 2, 1) := by decide +kernel
theorem dX0_remove_47 : decode cX0_remove 47 = .ok (.aaload, 1) := by decide +kernel
theorem dX0_remove_48 : decode cX0_remove 48 = .ok (.iconst 0, 1) := by decide +kernel
theorem dX0_remove_49 : decode cX0_remove 49 = .ok (.aload_n 0, 1) := by decide +kernel
theorem dX0_remove_50 : decode cX0_remove 50 = .ok (.getfield 11, 3) := by decide +kernel
theorem dX0_remove_53 : decode cX0_remove 53 = .ok (.iload_n 2, 1) := by decide +kernel
theorem dX0_remove_54 : decode cX0_remove 54 = .ok (.iconst 1, 1) := by decide +kernel
theorem dX0_remove_55 : decode cX0_remove 55 = .ok (.isub, 1) := by decide +kernel
theorem dX0_remove_56 : decode cX0_remove 56 = .ok (.aaload, 1) := by decide +kernel
theorem dX0_remove_57 : decode cX0_remove 57 = .ok (.iconst 0, 1) := by decide +kernel
theorem dX0_remove_58 : decode cX0_remove 58 = .ok (.iconst 4, 1) := by decide +kernel
theorem dX0_remove_59 : decode cX0_remove 59 = .ok (.invokestatic 38, 3) := by decide +kernel
theorem dX0_remove_62 : decode cX0_remove 62 = .ok (.iinc 2 1, 3) := by decide +kernel
theorem dX0_remove_65 : decode cX0_remove 65 = .ok (.goto (-31), 3) := by decide +kernel
theorem dX0_remove_68 : decode cX0_remove 68 = .ok (.aload_n 0, 1) := by decide +kernel
theorem dX0_remove_69 : decode cX0_remove 69 = .ok (.dup, 1) := by decide +kernel
theorem dX0_remove_70 : decode cX0_remove 70 = .ok (.getfield 27, 3) := by decide +kernel
theorem dX0_remove_73 : decode cX0_remove 73 = .ok (.iconst 1, 1) := by decide +kernel
theorem dX0_remove_74 : decode cX0_remove 74 = .ok (.isub, 1) := by decide +kernel
theorem dX0_remove_75 : decode cX0_remove 75 = .ok (.putfield 27, 3) := by decide +kernel
theorem dX0_remove_78 : decode cX0_remove 78 = .ok (.aload_n 0, 1) := by decide +kernel
theorem dX0_remove_79 : decode cX0_remove 79 = .ok (.getfield 27, 3) := by decide +kernel
theorem dX0_remove_82 : decode cX0_remove 82 = .ok (.ireturn, 1) := by decide +kernel
theorem dX0_makeFresh_0 : decode cX0_makeFresh 0 = .ok (.aload_n 0, 1) := by decide +kernel
theorem dX0_makeFresh_1 : decode cX0_makeFresh 1 = .ok (.getfield 23, 3) := by decide +kernel
theorem dX0_makeFresh_4 : decode cX0_makeFresh 4 = .ok (.invokevirtual 44, 3) := by decide +kernel
theorem dX0_makeFresh_7 : decode cX0_makeFresh 7 = .ok (.iconst 0, 1) := by decide +kernel
theorem dX0_makeFresh_8 : decode cX0_makeFresh 8 = .ok (.istore_n 2, 1) := by decide +kernel
theorem dX0_makeFresh_9 : decode cX0_makeFresh 9 = .ok (.iload_n 2, 1) := by decide +kernel
theorem dX0_makeFresh_10 : decode cX0_makeFresh 10 = .ok (.aload_n 0, 1) := by decide +kernel
theorem dX0_makeFresh_11 : decode cX0_makeFresh 11 = .ok (.getfield 27, 3) := by decide +kernel
theorem dX0_makeFresh_14 : decode cX0_makeFresh 14 = .ok (.if_icmp .ge 24, 3) := by decide +kernel
theorem dX0_makeFresh_17 : decode cX0_makeFresh 17 = .ok (.aload_n 0, 1) := by decide +kernel
theorem dX0_makeFresh_18 : decode cX0_makeFresh 18 = .ok (.getfield 23, 3) := by decide +kernel
theorem dX0_makeFresh_21 : decode cX0_makeFresh 21 = .ok (.aload_n 0, 1) := by decide +kernel
theorem dX0_makeFresh_22 : decode cX0_makeFresh 22 = .ok (.getfield 11, 3) := by decide +kernel
theorem dX0_makeFresh_25 : decode cX0_makeFresh 25 = .ok (.iload_n 2, 1) := by decide +kernel
theorem dX0_makeFresh_26 : decode cX0_makeFresh 26 = .ok (.aaload, 1) := by decide +kernel
theorem dX0_makeFresh_27 : decode cX0_makeFresh 27 = .ok (.iload_n 1, 1) := by decide +kernel
theorem dX0_makeFresh_28 : decode cX0_makeFresh 28 = .ok (.iaload, 1) := by decide +kernel
theorem dX0_makeFresh_29 : decode cX0_makeFresh 29 = .ok (.invokevirtual 31, 3) := by decide +kernel
theorem dX0_makeFresh_32 : decode cX0_makeFresh 32 = .ok (.iinc 2 1, 3) := by decide +kernel
theorem dX0_makeFresh_35 : decode cX0_makeFresh 35 = .ok (.goto (-26), 3) := by decide +kernel
theorem dX0_makeFresh_38 : decode cX0_makeFresh 38 = .ok (.return_, 1) := by decide +kernel
theorem dX0_isStale_0 : decode cX0_isStale 0 = .ok (.aload_n 0, 1) := by decide +kernel
theorem dX0_isStale_1 : decode cX0_isStale 1 = .ok (.iload_n 1, 1) := by decide +kernel
theorem dX0_isStale_2 : decode cX0_isStale 2 = .ok (.invokevirtual 47, 3) := by decide +kernel
theorem dX0_isStale_5 : decode cX0_isStale 5 = .ok (.aload_n 0, 1) := by decide +kernel
theorem dX0_isStale_6 : decode cX0_isStale 6 = .ok (.getfield 18, 3) := by decide +kernel
theorem dX0_isStale_9 : decode cX0_isStale 9 = .ok (.iload_n 1, 1) := by decide +kernel
theorem dX0_isStale_10 : decode cX0_isStale 10 = .ok (.aaload, 1) := by decide +kernel
theorem dX0_isStale_11 : decode cX0_isStale 11 = .ok (.aload_n 0, 1) := by decide +kernel
theorem dX0_isStale_12 : decode cX0_isStale 12 = .ok (.getfield 23, 3) := by decide +kernel
theorem dX0_isStale_15 : decode cX0_isStale 15 = .ok (.invokevirtual 50, 3) := by decide +kernel
theorem dX0_isStale_18 : decode cX0_isStale 18 = .ok (.ireturn, 1) := by decide +kernel
theorem dX0_renew_0 : decode cX0_renew 0 = .ok (.iconst 0, 1) := by decide +kernel
theorem dX0_renew_1 : decode cX0_renew 1 = .ok (.istore_n 1, 1) := by decide +kernel
theorem dX0_renew_2 : decode cX0_renew 2 = .ok (.iconst 0, 1) := by decide +kernel
theorem dX0_renew_3 : decode cX0_renew 3 = .ok (.istore_n 2, 1) := by decide +kernel
theorem dX0_renew_4 : decode cX0_renew 4 = .ok (.iload_n 2, 1) := by decide +kernel
theorem dX0_renew_5 : decode cX0_renew 5 = .ok (.iconst 4, 1) := by decide +kernel
theorem dX0_renew_6 : decode cX0_renew 6 = .ok (.if_icmp .ge 33, 3) := by decide +kernel
theorem dX0_renew_9 : decode cX0_renew 9 = .ok (.aload_n 0, 1) := by decide +kernel
theorem dX0_renew_10 : decode cX0_renew 10 = .ok (.iload_n 2, 1) := by decide +kernel
theorem dX0_renew_11 : decode cX0_renew 11 = .ok (.invokevirtual 54, 3) := by decide +kernel
theorem dX0_renew_14 : decode cX0_renew 14 = .ok (.ifCond .eq 6, 3) := by decide +kernel
theorem dX0_renew_17 : decode cX0_renew 17 = .ok (.iinc 1 1, 3) := by decide +kernel
theorem dX0_renew_20 : decode cX0_renew 20 = .ok (.aload_n 0, 1) := by decide +kernel
theorem dX0_renew_21 : decode cX0_renew 21 = .ok (.getfield 18, 3) := by decide +kernel
theorem dX0_renew_24 : decode cX0_renew 24 = .ok (.iload_n 2, 1) := by decide +kernel
theorem dX0_renew_25 : decode cX0_renew 25 = .ok (.aaload, 1) := by decide +kernel
theorem dX0_renew_26 : decode cX0_renew 26 = .ok (.aload_n 0, 1) := by decide +kernel
theorem dX0_renew_27 : decode cX0_renew 27 = .ok (.getfield 23, 3) := by decide +kernel
theorem dX0_renew_30 : decode cX0_renew 30 = .ok (.invokevirtual 58, 3) := by decide +kernel
theorem dX0_renew_33 : decode cX0_renew 33 = .ok (.iinc 2 1, 3) := by decide +kernel
theorem dX0_renew_36 : decode cX0_renew 36 = .ok (.goto (-32), 3) := by decide +kernel
theorem dX0_renew_39 : decode cX0_renew 39 = .ok (.iload_n 1, 1) := by decide +kernel
theorem dX0_renew_40 : decode cX0_renew 40 = .ok (.ireturn, 1) := by decide +kernel
theorem dX0_copyFrom_0 : decode cX0_copyFrom 0 = .ok (.aload_n 0, 1) := by decide +kernel
theorem dX0_copyFrom_1 : decode cX0_copyFrom 1 = .ok (.aload_n 1, 1) := by decide +kernel
theorem dX0_copyFrom_2 : decode cX0_copyFrom 2 = .ok (.getfield 27, 3) := by decide +kernel
theorem dX0_copyFrom_5 : decode cX0_copyFrom 5 = .ok (.putfield 27, 3) := by decide +kernel
theorem dX0_copyFrom_8 : decode cX0_copyFrom 8 = .ok (.iconst 0, 1) := by decide +kernel
theorem dX0_copyFrom_9 : decode cX0_copyFrom 9 = .ok (.istore_n 2, 1) := by decide +kernel
theorem dX0_copyFrom_10 : decode cX0_copyFrom 10 = .ok (.iload_n 2, 1) := by decide +kernel
theorem dX0_copyFrom_11 : decode cX0_copyFrom 11 = .ok (.bipush 8, 2) := by decide +kernel
theorem dX0_copyFrom_13 : decode cX0_copyFrom 13 = .ok (.if_icmp .ge 27, 3) := by decide +kernel
theorem dX0_copyFrom_16 : decode cX0_copyFrom 16 = .ok (.aload_n 1, 1) := by decide +kernel
theorem dX0_copyFrom_17 : decode cX0_copyFrom 17 = .ok (.getfield 11, 3) := by decide +kernel
theorem dX0_copyFrom_20 : decode cX0_copyFrom 20 = .ok (.iload_n 2, 1) := by decide +kernel
theorem dX0_copyFrom_21 : decode cX0_copyFrom 21 = .ok (.aaload, 1) := by decide +kernel
theorem dX0_copyFrom_22 : decode cX0_copyFrom 22 = .ok (.iconst 0, 1) := by decide +kernel
theorem dX0_copyFrom_23 : decode cX0_copyFrom 23 = .ok (.aload_n 0, 1) := by decide +kernel
theorem dX0_copyFrom_24 : decode cX0_copyFrom 24 = .ok (.getfield 11, 3) := by decide +kernel
theorem dX0_copyFrom_27 : decode cX0_copyFrom 27 = .ok (.iload_n 2, 1) := by decide +kernel
theorem dX0_copyFrom_28 : decode cX0_copyFrom 28 = .ok (.aaload, 1) := by decide +kernel
theorem dX0_copyFrom_29 : decode cX0_copyFrom 29 = .ok (.iconst 0, 1) := by decide +kernel
theorem dX0_copyFrom_30 : decode cX0_copyFrom 30 = .ok (.iconst 4, 1) := by decide +kernel
theorem dX0_copyFrom_31 : decode cX0_copyFrom 31 = .ok (.invokestatic 38, 3) := by decide +kernel
theorem dX0_copyFrom_34 : decode cX0_copyFrom 34 = .ok (.iinc 2 1, 3) := by decide +kernel
theorem dX0_copyFrom_37 : decode cX0_copyFrom 37 = .ok (.goto (-27), 3) := by decide +kernel
theorem dX0_copyFrom_40 : decode cX0_copyFrom 40 = .ok (.iconst 0, 1) := by decide +kernel
theorem dX0_copyFrom_41 : decode cX0_copyFrom 41 = .ok (.istore_n 2, 1) := by decide +kernel
theorem dX0_copyFrom_42 : decode cX0_copyFrom 42 = .ok (.iload_n 2, 1) := by decide +kernel
theorem dX0_copyFrom_43 : decode cX0_copyFrom 43 = .ok (.iconst 4, 1) := by decide +kernel
theorem dX0_copyFrom_44 : decode cX0_copyFrom 44 = .ok (.if_icmp .ge 24, 3) := by decide +kernel
theorem dX0_copyFrom_47 : decode cX0_copyFrom 47 = .ok (.aload_n 0, 1) := by decide +kernel
theorem dX0_copyFrom_48 : decode cX0_copyFrom 48 = .ok (.getfield 18, 3) := by decide +kernel
theorem dX0_copyFrom_51 : decode cX0_copyFrom 51 = .ok (.iload_n 2, 1) := by decide +kernel
theorem dX0_copyFrom_52 : decode cX0_copyFrom 52 = .ok (.aaload, 1) := by decide +kernel
theorem dX0_copyFrom_53 : decode cX0_copyFrom 53 = .ok (.aload_n 1, 1) := by decide +kernel
theorem dX0_copyFrom_54 : decode cX0_copyFrom 54 = .ok (.getfield 18, 3) := by decide +kernel
theorem dX0_copyFrom_57 : decode cX0_copyFrom 57 = .ok (.iload_n 2, 1) := by decide +kernel
theorem dX0_copyFrom_58 : decode cX0_copyFrom 58 = .ok (.aaload, 1) := by decide +kernel
theorem dX0_copyFrom_59 : decode cX0_copyFrom 59 = .ok (.invokevirtual 58, 3) := by decide +kernel
theorem dX0_copyFrom_62 : decode cX0_copyFrom 62 = .ok (.iinc 2 1, 3) := by decide +kernel
theorem dX0_copyFrom_65 : decode cX0_copyFrom 65 = .ok (.goto (-23), 3) := by decide +kernel
theorem dX0_copyFrom_68 : decode cX0_copyFrom 68 = .ok (.return_, 1) := by decide +kernel
theorem dX1_init_0 : decode cX1_init 0 = .ok (.aload_n 0, 1) := by decide +kernel
theorem dX1_init_1 : decode cX1_init 1 = .ok (.invokespecial 3, 3) := by decide +kernel
theorem dX1_init_4 : decode cX1_init 4 = .ok (.aload_n 0, 1) := by decide +kernel
theorem dX1_init_5 : decode cX1_init 5 = .ok (.bipush 60, 2) := by decide +kernel
theorem dX1_init_7 : decode cX1_init 7 = .ok (.newarray .int, 2) := by decide +kernel
theorem dX1_init_9 : decode cX1_init 9 = .ok (.putfield 9, 3) := by decide +kernel
theorem dX1_init_12 : decode cX1_init 12 = .ok (.aload_n 0, 1) := by decide +kernel
theorem dX1_init_13 : decode cX1_init 13 = .ok (.bipush 60, 2) := by decide +kernel
theorem dX1_init_15 : decode cX1_init 15 = .ok (.newarray .int, 2) := by decide +kernel
theorem dX1_init_17 : decode cX1_init 17 = .ok (.putfield 15, 3) := by decide +kernel
theorem dX1_init_20 : decode cX1_init 20 = .ok (.aload_n 0, 1) := by decide +kernel
theorem dX1_init_21 : decode cX1_init 21 = .ok (.bipush 60, 2) := by decide +kernel
theorem dX1_init_23 : decode cX1_init 23 = .ok (.newarray .int, 2) := by decide +kernel
theorem dX1_init_25 : decode cX1_init 25 = .ok (.putfield 18, 3) := by decide +kernel
theorem dX1_init_28 : decode cX1_init 28 = .ok (.aload_n 0, 1) := by decide +kernel
theorem dX1_init_29 : decode cX1_init 29 = .ok (.bipush 60, 2) := by decide +kernel
theorem dX1_init_31 : decode cX1_init 31 = .ok (.newarray .int, 2) := by decide +kernel
theorem dX1_init_33 : decode cX1_init 33 = .ok (.putfield 21, 3) := by decide +kernel
theorem dX1_init_36 : decode cX1_init 36 = .ok (.aload_n 0, 1) := by decide +kernel
theorem dX1_init_37 : decode cX1_init 37 = .ok (.bipush 60, 2) := by decide +kernel
theorem dX1_init_39 : decode cX1_init 39 = .ok (.newarray .int, 2) := by decide +kernel
theorem dX1_init_41 : decode cX1_init 41 = .ok (.putfield 24, 3) := by decide +kernel
theorem dX1_init_44 : decode cX1_init 44 = .ok (.aload_n 0, 1) := by decide +kernel
theorem dX1_init_45 : decode cX1_init 45 = .ok (.bipush 121, 2) := by decide +kernel
theorem dX1_init_47 : decode cX1_init 47 = .ok (.newarray .int, 2) := by decide +kernel
theorem dX1_init_49 : decode cX1_init 49 = .ok (.putfield 27, 3) := by decide +kernel
theorem dX1_init_52 : decode cX1_init 52 = .ok (.aload_n 0, 1) := by decide +kernel
theorem dX1_init_53 : decode cX1_init 53 = .ok (.invokevirtual 30, 3) := by decide +kernel
theorem dX1_init_56 : decode cX1_init 56 = .ok (.return_, 1) := by decide +kernel
theorem dX1_clear_0 : decode cX1_clear 0 = .ok (.aload_n 0, 1) := by decide +kernel
theorem dX1_clear_1 : decode cX1_clear 1 = .ok (.iconst 0, 1) := by decide +kernel
theorem dX1_clear_2 : decode cX1_clear 2 = .ok (.putfield 33, 3) := by decide +kernel
theorem dX1_clear_5 : decode cX1_clear 5 = .ok (.aload_n 0, 1) := by decide +kernel
theorem dX1_clear_6 : decode cX1_clear 6 = .ok (.iconst 0, 1) := by decide +kernel
theorem dX1_clear_7 : decode cX1_clear 7 = .ok (.putfield 37, 3) := by decide +kernel
theorem dX1_clear_10 : decode cX1_clear 10 = .ok (.aload_n 0, 1) := by decide +kernel
theorem dX1_clear_11 : decode cX1_clear 11 = .ok (.ldc 40, 2) := by decide +kernel
theorem dX1_clear_13 : decode cX1_clear 13 = .ok (.putfield 41, 3) := by decide +kernel
theorem dX1_clear_16 : decode cX1_clear 16 = .ok (.aload_n 0, 1) := by decide +kernel
theorem dX1_clear_17 : decode cX1_clear 17 = .ok (.iconst 1, 1) := by decide +kernel
theorem dX1_clear_18 : decode cX1_clear 18 = .ok (.invokevirtual 44, 3) := by decide +kernel
theorem dX1_clear_21 : decode cX1_clear 21 = .ok (.return_, 1) := by decide +kernel
theorem dX1_append_0 : decode cX1_append 0 = .ok (.aload_n 0, 1) := by decide +kernel
theorem dX1_append_1 : decode cX1_append 1 = .ok (.getfield 33, 3) := by decide +kernel
theorem dX1_append_4 : decode cX1_append 4 = .ok (.bipush 60, 2) := by decide +kernel
theorem dX1_append_6 : decode cX1_append 6 = .ok (.if_icmp .lt 6, 3) := by decide +kernel
theorem dX1_append_9 : decode cX1_append 9 = .ok (.bipush (-4), 2) := by decide +kernel
theorem dX1_append_11 : decode cX1_append 11 = .ok (.ireturn, 1) := by decide +kernel
theorem dX1_append_12 : decode cX1_append 12 = .ok (.aload_n 0, 1) := by decide +kernel
theorem dX1_append_13 : decode cX1_append 13 = .ok (.getfield 9, 3) := by decide +kernel
theorem dX1_append_16 : decode cX1_append 16 = .ok (.aload_n 0, 1) := by decide +kernel
theorem dX1_append_17 : decode cX1_append 17 = .ok (.getfield 33, 3) := by decide +kernel
theorem dX1_append_20 : decode cX1_append 20 = .ok (.iload_n 1, 1) := by decide +kernel
theorem dX1_append_21 : decode cX1_append 21 = .ok (.iastore, 1) := by decide +kernel
theorem dX1_append_22 : decode cX1_append 22 = .ok (.aload_n 0, 1) := by decide +kernel
theorem dX1_append_23 : decode cX1_append 23 = .ok (.getfield 41, 3) := by decide +kernel
theorem dX1_append_26 : decode cX1_append 26 = .ok (.ldc 40, 2) := by decide +kernel
theorem dX1_append_28 : decode cX1_append 28 = .ok (.if_icmp .ne 19, 3) := by decide +kernel
theorem dX1_append_31 : decode cX1_append 31 = .ok (.aload_n 0, 1) := by decide +kernel
theorem dX1_append_32 : decode cX1_append 32 = .ok (.iload_n 1, 1) := by decide +kernel
theorem dX1_append_33 : decode cX1_append 33 = .ok (.invokevirtual 48, 3) := by decide +kernel
theorem dX1_append_36 : decode cX1_append 36 = .ok (.ifCond .ne 11, 3) := by decide +kernel
theorem dX1_append_39 : decode cX1_append 39 = .ok (.aload_n 0, 1) := by decide +kernel
theorem dX1_append_40 : decode cX1_append 40 = .ok (.aload_n 0, 1) := by decide +kernel
theorem dX1_append_41 : decode cX1_append 41 = .ok (.getfield 33, 3) := by decide +kernel
theorem dX1_append_44 : decode cX1_append 44 = .ok (.putfield 41, 3) := by decide +kernel
theorem dX1_append_47 : decode cX1_append 47 = .ok (.aload_n 0, 1) := by decide +kernel
theorem dX1_append_48 : decode cX1_append 48 = .ok (.dup, 1) := by decide +kernel
theorem dX1_append_49 : decode cX1_append 49 = .ok (.getfield 33, 3) := by decide +kernel
theorem dX1_append_52 : decode cX1_append 52 = .ok (.iconst 1, 1) := by decide +kernel
theorem dX1_append_53 : decode cX1_append 53 = .ok (.iadd, 1) := by decide +kernel
theorem dX1_append_54 : decode cX1_append 54 = .ok (.putfield 33, 3) := by decide +kernel
theorem dX1_append_57 : decode cX1_append 57 = .ok (.aload_n 0, 1) := by decide +kernel
theorem dX1_append_58 : decode cX1_append 58 = .ok (.invokevirtual 52, 3) := by decide +kernel
theorem dX1_append_61 : decode cX1_append 61 = .ok (.ifCond .ne 7, 3) := by decide +kernel
theorem dX1_append_64 : decode cX1_append 64 = .ok (.aload_n 0, 1) := by decide +kernel
theorem dX1_append_65 : decode cX1_append 65 = .ok (.invokevirtual 56, 3) := by decide +kernel
theorem dX1_append_68 : decode cX1_append 68 = .ok (.aload_n 0, 1) := by decide +kernel
theorem dX1_append_69 : decode cX1_append 69 = .ok (.getfield 33, 3) := by decide +kernel
theorem dX1_append_72 : decode cX1_append 72 = .ok (.ireturn, 1) := by decide +kernel
theorem dX1_faultPlace_0 : decode cX1_faultPlace 0 = .ok (.aload_n 0, 1) := by decide +kernel
theorem dX1_faultPlace_1 : decode cX1_faultPlace 1 = .ok (.getfield 41, 3) := by decide +kernel
theorem dX1_faultPlace_4 : decode cX1_faultPlace 4 = .ok (.ldc 40, 2) := by decide +kernel
theorem dX1_faultPlace_6 : decode cX1_faultPlace 6 = .ok (.if_icmp .eq 8, 3) := by decide +kernel
theorem dX1_faultPlace_9 : decode cX1_faultPlace 9 = .ok (.aload_n 0, 1) := by decide +kernel
theorem dX1_faultPlace_10 : decode cX1_faultPlace 10 = .ok (.getfield 41, 3) := by decide +kernel
theorem dX1_faultPlace_13 : decode cX1_faultPlace 13 = .ok (.ireturn, 1) := by decide +kernel
theorem dX1_faultPlace_14 : decode cX1_faultPlace 14 = .ok (.aload_n 0, 1) := by decide +kernel
theorem dX1_faultPlace_15 : decode cX1_faultPlace 15 = .ok (.getfield 37, 3) := by decide +kernel
theorem dX1_faultPlace_18 : decode cX1_faultPlace 18 = .ok (.ifCond .le 10, 3) := by decide +kernel
theorem dX1_faultPlace_21 : decode cX1_faultPlace 21 = .ok (.aload_n 0, 1) := by decide +kernel
theorem dX1_faultPlace_22 : decode cX1_faultPlace 22 = .ok (.getfield 33, 3) := by decide +kernel
theorem dX1_faultPlace_25 : decode cX1_faultPlace 25 = .ok (.goto 5, 3) := by decide +kernel
theorem dX1_faultPlace_28 : decode cX1_faultPlace 28 = .ok (.ldc 40, 2) := by decide +kernel
theorem dX1_faultPlace_30 : decode cX1_faultPlace 30 = .ok (.ireturn, 1) := by decide +kernel
theorem dX1_isFaulty_0 : decode cX1_isFaulty 0 = .ok (.aload_n 0, 1) := by decide +kernel
theorem dX1_isFaulty_1 : decode cX1_isFaulty 1 = .ok (.getfield 41, 3) := by decide +kernel
theorem dX1_isFaulty_4 : decode cX1_isFaulty 4 = .ok (.ldc 40, 2) := by decide +kernel
theorem dX1_isFaulty_6 : decode cX1_isFaulty 6 = .ok (.if_icmp .ne 10, 3) := by decide +kernel
theorem dX1_isFaulty_9 : decode cX1_isFaulty 9 = .ok (.aload_n 0, 1) := by decide +kernel
theorem dX1_isFaulty_10 : decode cX1_isFaulty 10 = .ok (.getfield 37, 3) := by decide +kernel
theorem dX1_isFaulty_13 : decode cX1_isFaulty 13 = .ok (.ifCond .le 7, 3) := by decide +kernel
theorem dX1_isFaulty_16 : decode cX1_isFaulty 16 = .ok (.iconst 1, 1) := by decide +kernel
theorem dX1_isFaulty_17 : decode cX1_isFaulty 17 = .ok (.goto 4, 3) := by decide +kernel
theorem dX1_isFaulty_20 : decode cX1_isFaulty 20 = .ok (.iconst 0, 1) := by decide +kernel
theorem dX1_isFaulty_21 : decode cX1_isFaulty 21 = .ok (.ireturn, 1) := by decide +kernel
theorem dX1_await_0 : decode cX1_await 0 = .ok (.aload_n 0, 1) := by decide +kernel
theorem dX1_await_1 : decode cX1_await 1 = .ok (.getfield 37, 3) := by decide +kernel
theorem dX1_await_4 : decode cX1_await 4 = .ok (.aload_n 0, 1) := by decide +kernel
theorem dX1_await_5 : decode cX1_await 5 = .ok (.getfield 27, 3) := by decide +kernel
theorem dX1_await_8 : decode cX1_await 8 = .ok (.arraylength, 1) := by decide +kernel
theorem dX1_await_9 : decode cX1_await 9 = .ok (.if_icmp .ge 23, 3) := by decide +kernel
theorem dX1_await_12 : decode cX1_await 12 = .ok (.aload_n 0, 1) := by decide +kernel
theorem dX1_await_13 : decode cX1_await 13 = .ok (.getfield 27, 3) := by decide +kernel
theorem dX1_await_16 : decode cX1_await 16 = .ok (.aload_n 0, 1) := by decide +kernel
theorem dX1_await_17 : decode cX1_await 17 = .ok (.getfield 37, 3) := by decide +kernel
theorem dX1_await_20 : decode cX1_await 20 = .ok (.iload_n 1, 1) := by decide +kernel
theorem dX1_await_21 : decode cX1_await 21 = .ok (.iastore, 1) := by decide +kernel
theorem dX1_await_22 : decode cX1_await 22 = .ok (.aload_n 0, 1) := by decide +kernel
theorem dX1_await_23 : decode cX1_await 23 = .ok (.dup, 1) := by decide +kernel
theorem dX1_await_24 : decode cX1_await 24 = .ok (.getfield 37, 3) := by decide +kernel
theorem dX1_await_27 : decode cX1_await 27 = .ok (.iconst 1, 1) := by decide +kernel
theorem dX1_await_28 : decode cX1_await 28 = .ok (.iadd, 1) := by decide +kernel
theorem dX1_await_29 : decode cX1_await 29 = .ok (.putfield 37, 3) := by decide +kernel
theorem dX1_await_32 : decode cX1_await 32 = .ok (.return_, 1) := by decide +kernel
theorem dX1_canStand_0 : decode cX1_canStand 0 = .ok (.aload_n 0, 1) := by decide +kernel
theorem dX1_canStand_1 : decode cX1_canStand 1 = .ok (.getfield 37, 3) := by decide +kernel
theorem dX1_canStand_4 : decode cX1_canStand 4 = .ok (.ifCond .ne 5, 3) := by decide +kernel
theorem dX1_canStand_7 : decode cX1_canStand 7 = .ok (.iconst 0, 1) := by decide +kernel
theorem dX1_canStand_8 : decode cX1_canStand 8 = .ok (.ireturn, 1) := by decide +kernel
theorem dX1_canStand_9 : decode cX1_canStand 9 = .ok (.aload_n 0, 1) := by decide +kernel
theorem dX1_canStand_10 : decode cX1_canStand 10 = .ok (.dup, 1) := by decide +kernel
theorem dX1_canStand_11 : decode cX1_canStand 11 = .ok (.getfield 37, 3) := by decide +kernel
theorem dX1_canStand_14 : decode cX1_canStand 14 = .ok (.iconst 1, 1) := by decide +kernel
theorem dX1_canStand_15 : decode cX1_canStand 15 = .ok (.isub, 1) := by decide +kernel
theorem dX1_canStand_16 : decode cX1_canStand 16 = .ok (.putfield 37, 3) := by decide +kernel
theorem dX1_canStand_19 : decode cX1_canStand 19 = .ok (.aload_n 0, 1) := by decide +kernel
theorem dX1_canStand_20 : decode cX1_canStand 20 = .ok (.getfield 27, 3) := by decide +kernel
theorem dX1_canStand_23 : decode cX1_canStand 23 = .ok (.aload_n 0, 1) := by decide +kernel
theorem dX1_canStand_24 : decode cX1_canStand 24 = .ok (.getfield 37, 3) := by decide +kernel
theorem dX1_canStand_27 : decode cX1_canStand 27 = .ok (.iaload, 1) := by decide +kernel
theorem dX1_canStand_28 : decode cX1_canStand 28 = .ok (.istore_n 2, 1) := by decide +kernel
theorem dX1_canStand_29 : decode cX1_canStand 29 = .ok (.aload_n 0, 1) := by decide +kernel
theorem dX1_canStand_30 : decode cX1_canStand 30 = .ok (.getfield 15, 3) := by decide +kernel
theorem dX1_canStand_33 : decode cX1_canStand 33 = .ok (.aload_n 0, 1) := by decide +kernel
theorem dX1_canStand_34 : decode cX1_canStand 34 = .ok (.getfield 33, 3) := by decide +kernel
theorem dX1_canStand_37 : decode cX1_canStand 37 = .ok (.iload_n 2, 1) := by decide +kernel
theorem dX1_canStand_38 : decode cX1_canStand 38 = .ok (.iastore, 1) := by decide +kernel
theorem dX1_canStand_39 : decode cX1_canStand 39 = .ok (.iload_n 2, 1) := by decide +kernel
theorem dX1_canStand_40 : decode cX1_canStand 40 = .ok (.tableswitch 54 1 4 #[32, 38, 44, 49], 32) := by decide +kernel
theorem dX1_canStand_72 : decode cX1_canStand 72 = .ok (.aload_n 0, 1) := by decide +kernel
theorem dX1_canStand_73 : decode cX1_canStand 73 = .ok (.iload_n 1, 1) := by decide +kernel
theorem dX1_canStand_74 : decode cX1_canStand 74 = .ok (.invokevirtual 59, 3) := by decide +kernel
theorem dX1_canStand_77 : decode cX1_canStand 77 = .ok (.ireturn, 1) := by decide +kernel
theorem dX1_canStand_78 : decode cX1_canStand 78 = .ok (.aload_n 0, 1) := by decide +kernel
theorem dX1_canStand_79 : decode cX1_canStand 79 = .ok (.iload_n 1, 1) := by decide +kernel
theorem dX1_canStand_80 : decode cX1_canStand 80 = .ok (.invokevirtual 62, 3) := by decide +kernel
theorem dX1_canStand_83 : decode cX1_canStand 83 = .ok (.ireturn, 1) := by decide +kernel
theorem dX1_canStand_84 : decode cX1_canStand 84 = .ok (.iload_n 1, 1) := by decide +kernel
theorem dX1_canStand_85 : decode cX1_canStand 85 = .ok (.invokestatic 65, 3) := by decide +kernel
theorem dX1_canStand_88 : decode cX1_canStand 88 = .ok (.ireturn, 1) := by decide +kernel
theorem dX1_canStand_89 : decode cX1_canStand 89 = .ok (.iload_n 1, 1) := by decide +kernel
theorem dX1_canStand_90 : decode cX1_canStand 90 = .ok (.invokestatic 68, 3) := by decide +kernel
theorem dX1_canStand_93 : decode cX1_canStand 93 = .ok (.ireturn, 1) := by decide +kernel
theorem dX1_canStand_94 : decode cX1_canStand 94 = .ok (.iload_n 1, 1) := by decide +kernel
theorem dX1_canStand_95 : decode cX1_canStand 95 = .ok (.invokestatic 68, 3) := by decide +kernel
theorem dX1_canStand_98 : decode cX1_canStand 98 = .ok (.ifCond .eq 13, 3) := by decide +kernel
theorem dX1_canStand_101 : decode cX1_canStand 101 = .ok (.iload_n 1, 1) := by decide +kernel
theorem dX1_canStand_102 : decode cX1_canStand 102 = .ok (.bipush 48, 2) := by decide +kernel
theorem dX1_canStand_104 : decode cX1_canStand 104 = .ok (.if_icmp .eq 7, 3) := by decide +kernel
theorem dX1_canStand_107 : decode cX1_canStand 107 = .ok (.iconst 1, 1) := by decide +kernel
theorem dX1_canStand_108 : decode cX1_canStand 108 = .ok (.goto 4, 3) := by decide +kernel
theorem dX1_canStand_111 : decode cX1_canStand 111 = .ok (.iconst 0, 1) := by decide +kernel
theorem dX1_canStand_112 : decode cX1_canStand 112 = .ok (.ireturn, 1) := by decide +kernel
theorem dX1_beginsTruth_0 : decode cX1_beginsTruth 0 = .ok (.iload_n 1, 1) := by decide +kernel
theorem dX1_beginsTruth_1 : decode cX1_beginsTruth 1 = .ok (.lookupswitch 97 #[(33, 83), (38, 71), (60, 59), (61, 59), (109, 90), (124, 71)], 59) := by decide +kernel
theorem dX1_beginsTruth_60 : decode cX1_beginsTruth 60 = .ok (.aload_n 0, 1) := by decide +kernel
theorem dX1_beginsTruth_61 : decode cX1_beginsTruth 61 = .ok (.iconst 2, 1) := by decide +kernel
theorem dX1_beginsTruth_62 : decode cX1_beginsTruth 62 = .ok (.invokevirtual 44, 3) := by decide +kernel
theorem dX1_beginsTruth_65 : decode cX1_beginsTruth 65 = .ok (.aload_n 0, 1) := by decide +kernel
theorem dX1_beginsTruth_66 : decode cX1_beginsTruth 66 = .ok (.iconst 2, 1) := by decide +kernel
theorem dX1_beginsTruth_67 : decode cX1_beginsTruth 67 = .ok (.invokevirtual 44, 3) := by decide +kernel
theorem dX1_beginsTruth_70 : decode cX1_beginsTruth 70 = .ok (.iconst 1, 1) := by decide +kernel
theorem dX1_beginsTruth_71 : decode cX1_beginsTruth 71 = .ok (.ireturn, 1) := by decide +kernel
theorem dX1_beginsTruth_72 : decode cX1_beginsTruth 72 = .ok (.aload_n 0, 1) := by decide +kernel
theorem dX1_beginsTruth_73 : decode cX1_beginsTruth 73 = .ok (.iconst 1, 1) := by decide +kernel
theorem dX1_beginsTruth_74 : decode cX1_beginsTruth 74 = .ok (.invokevirtual 44, 3) := by decide +kernel
theorem dX1_beginsTruth_77 : decode cX1_beginsTruth 77 = .ok (.aload_n 0, 1) := by decide +kernel
theorem dX1_beginsTruth_78 : decode cX1_beginsTruth 78 = .ok (.iconst 1, 1) := by decide +kernel
theorem dX1_beginsTruth_79 : decode cX1_beginsTruth 79 = .ok (.invokevirtual 44, 3) := by decide +kernel
theorem dX1_beginsTruth_82 : decode cX1_beginsTruth 82 = .ok (.iconst 1, 1) := by decide +kernel
theorem dX1_beginsTruth_83 : decode cX1_beginsTruth 83 = .ok (.ireturn, 1) := by decide +kernel
theorem dX1_beginsTruth_84 : decode cX1_beginsTruth 84 = .ok (.aload_n 0, 1) := by decide +kernel
theorem dX1_beginsTruth_85 : decode cX1_beginsTruth 85 = .ok (.iconst 1, 1) := by decide +kernel
theorem dX1_beginsTruth_86 : decode cX1_beginsTruth 86 = .ok (.invokevirtual 44, 3) := by decide +kernel
theorem dX1_beginsTruth_89 : decode cX1_beginsTruth 89 = .ok (.iconst 1, 1) := by decide +kernel
theorem dX1_beginsTruth_90 : decode cX1_beginsTruth 90 = .ok (.ireturn, 1) := by decide +kernel
theorem dX1_beginsTruth_91 : decode cX1_beginsTruth 91 = .ok (.aload_n 0, 1) := by decide +kernel
theorem dX1_beginsTruth_92 : decode cX1_beginsTruth 92 = .ok (.iconst 3, 1) := by decide +kernel
theorem dX1_beginsTruth_93 : decode cX1_beginsTruth 93 = .ok (.invokevirtual 44, 3) := by decide +kernel
theorem dX1_beginsTruth_96 : decode cX1_beginsTruth 96 = .ok (.iconst 1, 1) := by decide +kernel
theorem dX1_beginsTruth_97 : decode cX1_beginsTruth 97 = .ok (.ireturn, 1) := by decide +kernel
theorem dX1_beginsTruth_98 : decode cX1_beginsTruth 98 = .ok (.iconst 0, 1) := by decide +kernel
theorem dX1_beginsTruth_99 : decode cX1_beginsTruth 99 = .ok (.ireturn, 1) := by decide +kernel
theorem dX1_beginsTerm_0 : decode cX1_beginsTerm 0 = .ok (.iload_n 1, 1) := by decide +kernel
theorem dX1_beginsTerm_1 : decode cX1_beginsTerm 1 = .ok (.lookupswitch 115 #[(35, 67), (37, 103), (42, 91), (43, 91), (45, 91), (121, 84), (126, 84)], 67) := by decide +kernel
theorem dX1_beginsTerm_68 : decode cX1_beginsTerm 68 = .ok (.aload_n 0, 1) := by decide +kernel
theorem dX1_beginsTerm_69 : decode cX1_beginsTerm 69 = .ok (.iconst 4, 1) := by decide +kernel
theorem dX1_beginsTerm_70 : decode cX1_beginsTerm 70 = .ok (.invokevirtual 44, 3) := by decide +kernel
theorem dX1_beginsTerm_73 : decode cX1_beginsTerm 73 = .ok (.aload_n 0, 1) := by decide +kernel
theorem dX1_beginsTerm_74 : decode cX1_beginsTerm 74 = .ok (.iconst 4, 1) := by decide +kernel
theorem dX1_beginsTerm_75 : decode cX1_beginsTerm 75 = .ok (.invokevirtual 44, 3) := by decide +kernel
theorem dX1_beginsTerm_78 : decode cX1_beginsTerm 78 = .ok (.aload_n 0, 1) := by decide +kernel
theorem dX1_beginsTerm_79 : decode cX1_beginsTerm 79 = .ok (.iconst 4, 1) := by decide +kernel
theorem dX1_beginsTerm_80 : decode cX1_beginsTerm 80 = .ok (.invokevirtual 44, 3) := by decide +kernel
theorem dX1_beginsTerm_83 : decode cX1_beginsTerm 83 = .ok (.iconst 1, 1) := by decide +kernel
theorem dX1_beginsTerm_84 : decode cX1_beginsTerm 84 = .ok (.ireturn, 1) := by decide +kernel
theorem dX1_beginsTerm_85 : decode cX1_beginsTerm 85 = .ok (.aload_n 0, 1) := by decide +kernel
theorem dX1_beginsTerm_86 : decode cX1_beginsTerm 86 = .ok (.iconst 2, 1) := by decide +kernel
theorem dX1_beginsTerm_87 : decode cX1_beginsTerm 87 = .ok (.invokevirtual 44, 3) := by decide +kernel
theorem dX1_beginsTerm_90 : decode cX1_beginsTerm 90 = .ok (.iconst 1, 1) := by decide +kernel
theorem dX1_beginsTerm_91 : decode cX1_beginsTerm 91 = .ok (.ireturn, 1) := by decide +kernel
theorem dX1_beginsTerm_92 : decode cX1_beginsTerm 92 = .ok (.aload_n 0, 1) := by decide +kernel
theorem dX1_beginsTerm_93 : decode cX1_beginsTerm 93 = .ok (.iconst 2, 1) := by decide +kernel
theorem dX1_beginsTerm_94 : decode cX1_beginsTerm 94 = .ok (.invokevirtual 44, 3) := by decide +kernel
theorem dX1_beginsTerm_97 : decode cX1_beginsTerm 97 = .ok (.aload_n 0, 1) := by decide +kernel
theorem dX1_beginsTerm_98 : decode cX1_beginsTerm 98 = .ok (.iconst 2, 1) := by decide +kernel
theorem dX1_beginsTerm_99 : decode cX1_beginsTerm 99 = .ok (.invokevirtual 44, 3) := by decide +kernel
theorem dX1_beginsTerm_102 : decode cX1_beginsTerm 102 = .ok (.iconst 1, 1) := by decide +kernel
theorem dX1_beginsTerm_103 : decode cX1_beginsTerm 103 = .ok (.ireturn, 1) := by decide +kernel
theorem dX1_beginsTerm_104 : decode cX1_beginsTerm 104 = .ok (.aload_n 0, 1) := by decide +kernel
theorem dX1_beginsTerm_105 : decode cX1_beginsTerm 105 = .ok (.iconst 5, 1) := by decide +kernel
theorem dX1_beginsTerm_106 : decode cX1_beginsTerm 106 = .ok (.invokevirtual 44, 3) := by decide +kernel
theorem dX1_beginsTerm_109 : decode cX1_beginsTerm 109 = .ok (.aload_n 0, 1) := by decide +kernel
theorem dX1_beginsTerm_110 : decode cX1_beginsTerm 110 = .ok (.iconst 2, 1) := by decide +kernel
theorem dX1_beginsTerm_111 : decode cX1_beginsTerm 111 = .ok (.invokevirtual 44, 3) := by decide +kernel
theorem dX1_beginsTerm_114 : decode cX1_beginsTerm 114 = .ok (.iconst 1, 1) := by decide +kernel
theorem dX1_beginsTerm_115 : decode cX1_beginsTerm 115 = .ok (.ireturn, 1) := by decide +kernel
theorem dX1_beginsTerm_116 : decode cX1_beginsTerm 116 = .ok (.iload_n 1, 1) := by decide +kernel
theorem dX1_beginsTerm_117 : decode cX1_beginsTerm 117 = .ok (.invokestatic 65, 3) := by decide +kernel
theorem dX1_beginsTerm_120 : decode cX1_beginsTerm 120 = .ok (.ifCond .ne 10, 3) := by decide +kernel
theorem dX1_beginsTerm_123 : decode cX1_beginsTerm 123 = .ok (.iload_n 1, 1) := by decide +kernel
theorem dX1_beginsTerm_124 : decode cX1_beginsTerm 124 = .ok (.invokestatic 68, 3) := by decide +kernel
theorem dX1_beginsTerm_127 : decode cX1_beginsTerm 127 = .ok (.ifCond .eq 7, 3) := by decide +kernel
theorem dX1_beginsTerm_130 : decode cX1_beginsTerm 130 = .ok (.iconst 1, 1) := by decide +kernel
theorem dX1_beginsTerm_131 : decode cX1_beginsTerm 131 = .ok (.goto 4, 3) := by decide +kernel
theorem dX1_beginsTerm_134 : decode cX1_beginsTerm 134 = .ok (.iconst 0, 1) := by decide +kernel
theorem dX1_beginsTerm_135 : decode cX1_beginsTerm 135 = .ok (.ireturn, 1) := by decide +kernel
theorem dX1_findParts_0 : decode cX1_findParts 0 = .ok (.aload_n 0, 1) := by decide +kernel
theorem dX1_findParts_1 : decode cX1_findParts 1 = .ok (.getfield 33, 3) := by decide +kernel
theorem dX1_findParts_4 : decode cX1_findParts 4 = .ok (.iconst 1, 1) := by decide +kernel
theorem dX1_findParts_5 : decode cX1_findParts 5 = .ok (.isub, 1) := by decide +kernel
theorem dX1_findParts_6 : decode cX1_findParts 6 = .ok (.istore_n 1, 1) := by decide +kernel
theorem dX1_findParts_7 : decode cX1_findParts 7 = .ok (.iload_n 1, 1) := by decide +kernel
theorem dX1_findParts_8 : decode cX1_findParts 8 = .ok (.ifCond .lt 136, 3) := by decide +kernel
theorem dX1_findParts_11 : decode cX1_findParts 11 = .ok (.aload_n 0, 1) := by decide +kernel
theorem dX1_findParts_12 : decode cX1_findParts 12 = .ok (.getfield 9, 3) := by decide +kernel
theorem dX1_findParts_15 : decode cX1_findParts 15 = .ok (.iload_n 1, 1) := by decide +kernel
theorem dX1_findParts_16 : decode cX1_findParts 16 = .ok (.iaload, 1) := by decide +kernel
theorem dX1_findParts_17 : decode cX1_findParts 17 = .ok (.istore_n 2, 1) := by decide +kernel
theorem dX1_findParts_18 : decode cX1_findParts 18 = .ok (.aload_n 0, 1) := by decide +kernel
theorem dX1_findParts_19 : decode cX1_findParts 19 = .ok (.getfield 18, 3) := by decide +kernel
theorem dX1_findParts_22 : decode cX1_findParts 22 = .ok (.iload_n 1, 1) := by decide +kernel
theorem dX1_findParts_23 : decode cX1_findParts 23 = .ok (.aload_n 0, 1) := by decide +kernel
theorem dX1_findParts_24 : decode cX1_findParts 24 = .ok (.getfield 24, 3) := by decide +kernel
theorem dX1_findParts_27 : decode cX1_findParts 27 = .ok (.iload_n 1, 1) := by decide +kernel
theorem dX1_findParts_28 : decode cX1_findParts 28 = .ok (.iconst 1, 1) := by decide +kernel
theorem dX1_findParts_29 : decode cX1_findParts 29 = .ok (.iadd, 1) := by decide +kernel
theorem dX1_findParts_30 : decode cX1_findParts 30 = .ok (.invokestatic 71, 3) := by decide +kernel
theorem dX1_findParts_33 : decode cX1_findParts 33 = .ok (.iastore, 1) := by decide +kernel
theorem dX1_findParts_34 : decode cX1_findParts 34 = .ok (.aload_n 0, 1) := by decide +kernel
theorem dX1_findParts_35 : decode cX1_findParts 35 = .ok (.getfield 21, 3) := by decide +kernel
theorem dX1_findParts_38 : decode cX1_findParts 38 = .ok (.iload_n 1, 1) := by decide +kernel
theorem dX1_findParts_39 : decode cX1_findParts 39 = .ok (.aload_n 0, 1) := by decide +kernel
theorem dX1_findParts_40 : decode cX1_findParts 40 = .ok (.iload_n 1, 1) := by decide +kernel
theorem dX1_findParts_41 : decode cX1_findParts 41 = .ok (.invokevirtual 75, 3) := by decide +kernel
theorem dX1_findParts_44 : decode cX1_findParts 44 = .ok (.iastore, 1) := by decide +kernel
theorem dX1_findParts_45 : decode cX1_findParts 45 = .ok (.iload_n 2, 1) := by decide +kernel
theorem dX1_findParts_46 : decode cX1_findParts 46 = .ok (.invokestatic 79, 3) := by decide +kernel
theorem dX1_findParts_49 : decode cX1_findParts 49 = .ok (.ifCond .eq 25, 3) := by decide +kernel
theorem dX1_findParts_52 : decode cX1_findParts 52 = .ok (.aload_n 0, 1) := by decide +kernel
theorem dX1_findParts_53 : decode cX1_findParts 53 = .ok (.getfield 24, 3) := by decide +kernel
theorem dX1_findParts_56 : decode cX1_findParts 56 = .ok (.iload_n 1, 1) := by decide +kernel
theorem dX1_findParts_57 : decode cX1_findParts 57 = .ok (.aload_n 0, 1) := by decide +kernel
theorem dX1_findParts_58 : decode cX1_findParts 58 = .ok (.getfield 24, 3) := by decide +kernel
theorem dX1_findParts_61 : decode cX1_findParts 61 = .ok (.aload_n 0, 1) := by decide +kernel
theorem dX1_findParts_62 : decode cX1_findParts 62 = .ok (.getfield 18, 3) := by decide +kernel
theorem dX1_findParts_65 : decode cX1_findParts 65 = .ok (.iload_n 1, 1) := by decide +kernel
theorem dX1_findParts_66 : decode cX1_findParts 66 = .ok (.iaload, 1) := by decide +kernel
theorem dX1_findParts_67 : decode cX1_findParts 67 = .ok (.invokestatic 71, 3) := by decide +kernel
theorem dX1_findParts_70 : decode cX1_findParts 70 = .ok (.iastore, 1) := by decide +kernel
theorem dX1_findParts_71 : decode cX1_findParts 71 = .ok (.goto 67, 3) := by decide +kernel
theorem dX1_findParts_74 : decode cX1_findParts 74 = .ok (.iload_n 2, 1) := by decide +kernel
theorem dX1_findParts_75 : decode cX1_findParts 75 = .ok (.bipush 126, 2) := by decide +kernel
theorem dX1_findParts_77 : decode cX1_findParts 77 = .ok (.if_icmp .eq 21, 3) := by decide +kernel
theorem dX1_findParts_80 : decode cX1_findParts 80 = .ok (.iload_n 2, 1) := by decide +kernel
theorem dX1_findParts_81 : decode cX1_findParts 81 = .ok (.bipush 121, 2) := by decide +kernel
theorem dX1_findParts_83 : decode cX1_findParts 83 = .ok (.if_icmp .eq 15, 3) := by decide +kernel
theorem dX1_findParts_86 : decode cX1_findParts 86 = .ok (.iload_n 2, 1) := by decide +kernel
theorem dX1_findParts_87 : decode cX1_findParts 87 = .ok (.bipush 33, 2) := by decide +kernel
theorem dX1_findParts_89 : decode cX1_findParts 89 = .ok (.if_icmp .eq 9, 3) := by decide +kernel
theorem dX1_findParts_92 : decode cX1_findParts 92 = .ok (.iload_n 2, 1) := by decide +kernel
theorem dX1_findParts_93 : decode cX1_findParts 93 = .ok (.bipush 109, 2) := by decide +kernel
theorem dX1_findParts_95 : decode cX1_findParts 95 = .ok (.if_icmp .ne 22, 3) := by decide +kernel
theorem dX1_findParts_98 : decode cX1_findParts 98 = .ok (.aload_n 0, 1) := by decide +kernel
theorem dX1_findParts_99 : decode cX1_findParts 99 = .ok (.getfield 24, 3) := by decide +kernel
theorem dX1_findParts_102 : decode cX1_findParts 102 = .ok (.iload_n 1, 1) := by decide +kernel
theorem dX1_findParts_103 : decode cX1_findParts 103 = .ok (.aload_n 0, 1) := by decide +kernel
theorem dX1_findParts_104 : decode cX1_findParts 104 = .ok (.getfield 24, 3) := by decide +kernel
theorem dX1_findParts_107 : decode cX1_findParts 107 = .ok (.iload_n 1, 1) := by decide +kernel
theorem dX1_findParts_108 : decode cX1_findParts 108 = .ok (.iconst 1, 1) := by decide +kernel
theorem dX1_findParts_109 : decode cX1_findParts 109 = .ok (.iadd, 1) := by decide +kernel
theorem dX1_findParts_110 : decode cX1_findParts 110 = .ok (.invokestatic 71, 3) := by decide +kernel
theorem dX1_findParts_113 : decode cX1_findParts 113 = .ok (.iastore, 1) := by decide +kernel
theorem dX1_findParts_114 : decode cX1_findParts 114 = .ok (.goto 24, 3) := by decide +kernel
theorem dX1_findParts_117 : decode cX1_findParts 117 = .ok (.aload_n 0, 1) := by decide +kernel
theorem dX1_findParts_118 : decode cX1_findParts 118 = .ok (.getfield 24, 3) := by decide +kernel
theorem dX1_findParts_121 : decode cX1_findParts 121 = .ok (.iload_n 1, 1) := by decide +kernel
theorem dX1_findParts_122 : decode cX1_findParts 122 = .ok (.iload_n 2, 1) := by decide +kernel
theorem dX1_findParts_123 : decode cX1_findParts 123 = .ok (.bipush 35, 2) := by decide +kernel
theorem dX1_findParts_125 : decode cX1_findParts 125 = .ok (.if_icmp .ne 9, 3) := by decide +kernel
theorem dX1_findParts_128 : decode cX1_findParts 128 = .ok (.iload_n 1, 1) := by decide +kernel
theorem dX1_findParts_129 : decode cX1_findParts 129 = .ok (.iconst 4, 1) := by decide +kernel
theorem dX1_findParts_130 : decode cX1_findParts 130 = .ok (.iadd, 1) := by decide +kernel
theorem dX1_findParts_131 : decode cX1_findParts 131 = .ok (.goto 6, 3) := by decide +kernel
theorem dX1_findParts_134 : decode cX1_findParts 134 = .ok (.iload_n 1, 1) := by decide +kernel
theorem dX1_findParts_135 : decode cX1_findParts 135 = .ok (.iconst 1, 1) := by decide +kernel
theorem dX1_findParts_136 : decode cX1_findParts 136 = .ok (.iadd, 1) := by decide +kernel
theorem dX1_findParts_137 : decode cX1_findParts 137 = .ok (.iastore, 1) := by decide +kernel
theorem dX1_findParts_138 : decode cX1_findParts 138 = .ok (.iinc 1 (-1), 3) := by decide +kernel
theorem dX1_findParts_141 : decode cX1_findParts 141 = .ok (.goto (-134), 3) := by decide +kernel
theorem dX1_findParts_144 : decode cX1_findParts 144 = .ok (.return_, 1) := by decide +kernel
theorem dX1_numberAt_0 : decode cX1_numberAt 0 = .ok (.aload_n 0, 1) := by decide +kernel
theorem dX1_numberAt_1 : decode cX1_numberAt 1 = .ok (.getfield 9, 3) := by decide +kernel
theorem dX1_numberAt_4 : decode cX1_numberAt 4 = .ok (.iload_n 1, 1) := by decide +kernel
theorem dX1_numberAt_5 : decode cX1_numberAt 5 = .ok (.iaload, 1) := by decide +kernel
theorem dX1_numberAt_6 : decode cX1_numberAt 6 = .ok (.bipush 35, 2) := by decide +kernel
theorem dX1_numberAt_8 : decode cX1_numberAt 8 = .ok (.if_icmp .ne 33, 3) := by decide +kernel
theorem dX1_numberAt_11 : decode cX1_numberAt 11 = .ok (.bipush 100, 2) := by decide +kernel
theorem dX1_numberAt_13 : decode cX1_numberAt 13 = .ok (.aload_n 0, 1) := by decide +kernel
theorem dX1_numberAt_14 : decode cX1_numberAt 14 = .ok (.iload_n 1, 1) := by decide +kernel
theorem dX1_numberAt_15 : decode cX1_numberAt 15 = .ok (.iconst 1, 1) := by decide +kernel
theorem dX1_numberAt_16 : decode cX1_numberAt 16 = .ok (.iadd, 1) := by decide +kernel
theorem dX1_numberAt_17 : decode cX1_numberAt 17 = .ok (.invokevirtual 82, 3) := by decide +kernel
theorem dX1_numberAt_20 : decode cX1_numberAt 20 = .ok (.imul, 1) := by decide +kernel
theorem dX1_numberAt_21 : decode cX1_numberAt 21 = .ok (.bipush 10, 2) := by decide +kernel
theorem dX1_numberAt_23 : decode cX1_numberAt 23 = .ok (.aload_n 0, 1) := by decide +kernel
theorem dX1_numberAt_24 : decode cX1_numberAt 24 = .ok (.iload_n 1, 1) := by decide +kernel
theorem dX1_numberAt_25 : decode cX1_numberAt 25 = .ok (.iconst 2, 1) := by decide +kernel
theorem dX1_numberAt_26 : decode cX1_numberAt 26 = .ok (.iadd, 1) := by decide +kernel
theorem dX1_numberAt_27 : decode cX1_numberAt 27 = .ok (.invokevirtual 82, 3) := by decide +kernel
theorem dX1_numberAt_30 : decode cX1_numberAt 30 = .ok (.imul, 1) := by decide +kernel
theorem dX1_numberAt_31 : decode cX1_numberAt 31 = .ok (.iadd, 1) := by decide +kernel
theorem dX1_numberAt_32 : decode cX1_numberAt 32 = .ok (.aload_n 0, 1) := by decide +kernel
theorem dX1_numberAt_33 : decode cX1_numberAt 33 = .ok (.iload_n 1, 1) := by decide +kernel
theorem dX1_numberAt_34 : decode cX1_numberAt 34 = .ok (.iconst 3, 1) := by decide +kernel
theorem dX1_numberAt_35 : decode cX1_numberAt 35 = .ok (.iadd, 1) := by decide +kernel
theorem dX1_numberAt_36 : decode cX1_numberAt 36 = .ok (.invokevirtual 82, 3) := by decide +kernel
theorem dX1_numberAt_39 : decode cX1_numberAt 39 = .ok (.iadd, 1) := by decide +kernel
theorem dX1_numberAt_40 : decode cX1_numberAt 40 = .ok (.ireturn, 1) := by decide +kernel
theorem dX1_numberAt_41 : decode cX1_numberAt 41 = .ok (.aload_n 0, 1) := by decide +kernel
theorem dX1_numberAt_42 : decode cX1_numberAt 42 = .ok (.aload_n 0, 1) := by decide +kernel
theorem dX1_numberAt_43 : decode cX1_numberAt 43 = .ok (.getfield 9, 3) := by decide +kernel
theorem dX1_numberAt_46 : decode cX1_numberAt 46 = .ok (.iload_n 1, 1) := by decide +kernel
theorem dX1_numberAt_47 : decode cX1_numberAt 47 = .ok (.iaload, 1) := by decide +kernel
theorem dX1_numberAt_48 : decode cX1_numberAt 48 = .ok (.bipush 37, 2) := by decide +kernel
theorem dX1_numberAt_50 : decode cX1_numberAt 50 = .ok (.if_icmp .ne 12, 3) := by decide +kernel
theorem dX1_numberAt_53 : decode cX1_numberAt 53 = .ok (.aload_n 0, 1) := by decide +kernel
theorem dX1_numberAt_54 : decode cX1_numberAt 54 = .ok (.getfield 18, 3) := by decide +kernel
theorem dX1_numberAt_57 : decode cX1_numberAt 57 = .ok (.iload_n 1, 1) := by decide +kernel
theorem dX1_numberAt_58 : decode cX1_numberAt 58 = .ok (.iaload, 1) := by decide +kernel
theorem dX1_numberAt_59 : decode cX1_numberAt 59 = .ok (.goto 4, 3) := by decide +kernel
theorem dX1_numberAt_62 : decode cX1_numberAt 62 = .ok (.iload_n 1, 1) := by decide +kernel
theorem dX1_numberAt_63 : decode cX1_numberAt 63 = .ok (.invokevirtual 82, 3) := by decide +kernel
theorem dX1_numberAt_66 : decode cX1_numberAt 66 = .ok (.ireturn, 1) := by decide +kernel
theorem dX1_figureAt_0 : decode cX1_figureAt 0 = .ok (.aload_n 0, 1) := by decide +kernel
theorem dX1_figureAt_1 : decode cX1_figureAt 1 = .ok (.getfield 9, 3) := by decide +kernel
theorem dX1_figureAt_4 : decode cX1_figureAt 4 = .ok (.iload_n 1, 1) := by decide +kernel
theorem dX1_figureAt_5 : decode cX1_figureAt 5 = .ok (.invokestatic 71, 3) := by decide +kernel
theorem dX1_figureAt_8 : decode cX1_figureAt 8 = .ok (.istore_n 2, 1) := by decide +kernel
theorem dX1_figureAt_9 : decode cX1_figureAt 9 = .ok (.iload_n 2, 1) := by decide +kernel
theorem dX1_figureAt_10 : decode cX1_figureAt 10 = .ok (.invokestatic 68, 3) := by decide +kernel
theorem dX1_figureAt_13 : decode cX1_figureAt 13 = .ok (.ifCond .eq 10, 3) := by decide +kernel
theorem dX1_figureAt_16 : decode cX1_figureAt 16 = .ok (.iload_n 2, 1) := by decide +kernel
theorem dX1_figureAt_17 : decode cX1_figureAt 17 = .ok (.bipush 48, 2) := by decide +kernel
theorem dX1_figureAt_19 : decode cX1_figureAt 19 = .ok (.isub, 1) := by decide +kernel
theorem dX1_figureAt_20 : decode cX1_figureAt 20 = .ok (.goto 4, 3) := by decide +kernel
theorem dX1_figureAt_23 : decode cX1_figureAt 23 = .ok (.iconst 0, 1) := by decide +kernel
theorem dX1_figureAt_24 : decode cX1_figureAt 24 = .ok (.ireturn, 1) := by decide +kernel
theorem dX1_onlyColumn_0 : decode cX1_onlyColumn 0 = .ok (.ldc 40, 2) := by decide +kernel
theorem dX1_onlyColumn_2 : decode cX1_onlyColumn 2 = .ok (.istore_n 1, 1) := by decide +kernel
theorem dX1_onlyColumn_3 : decode cX1_onlyColumn 3 = .ok (.iconst 0, 1) := by decide +kernel
theorem dX1_onlyColumn_4 : decode cX1_onlyColumn 4 = .ok (.istore_n 2, 1) := by decide +kernel
theorem dX1_onlyColumn_5 : decode cX1_onlyColumn 5 = .ok (.iload_n 2, 1) := by decide +kernel
theorem dX1_onlyColumn_6 : decode cX1_onlyColumn 6 = .ok (.aload_n 0, 1) := by decide +kernel
theorem dX1_onlyColumn_7 : decode cX1_onlyColumn 7 = .ok (.getfield 33, 3) := by decide +kernel
theorem dX1_onlyColumn_10 : decode cX1_onlyColumn 10 = .ok (.if_icmp .ge 53, 3) := by decide +kernel
theorem dX1_onlyColumn_13 : decode cX1_onlyColumn 13 = .ok (.aload_n 0, 1) := by decide +kernel
theorem dX1_onlyColumn_14 : decode cX1_onlyColumn 14 = .ok (.getfield 9, 3) := by decide +kernel
theorem dX1_onlyColumn_17 : decode cX1_onlyColumn 17 = .ok (.iload_n 2, 1) := by decide +kernel
theorem dX1_onlyColumn_18 : decode cX1_onlyColumn 18 = .ok (.iaload, 1) := by decide +kernel
theorem dX1_onlyColumn_19 : decode cX1_onlyColumn 19 = .ok (.invokestatic 65, 3) := by decide +kernel
theorem dX1_onlyColumn_22 : decode cX1_onlyColumn 22 = .ok (.ifCond .eq 35, 3) := by decide +kernel
theorem dX1_onlyColumn_25 : decode cX1_onlyColumn 25 = .ok (.iload_n 1, 1) := by decide +kernel
theorem dX1_onlyColumn_26 : decode cX1_onlyColumn 26 = .ok (.ldc 40, 2) := by decide +kernel
theorem dX1_onlyColumn_28 : decode cX1_onlyColumn 28 = .ok (.if_icmp .eq 19, 3) := by decide +kernel
theorem dX1_onlyColumn_31 : decode cX1_onlyColumn 31 = .ok (.iload_n 1, 1) := by decide +kernel
theorem dX1_onlyColumn_32 : decode cX1_onlyColumn 32 = .ok (.aload_n 0, 1) := by decide +kernel
theorem dX1_onlyColumn_33 : decode cX1_onlyColumn 33 = .ok (.getfield 9, 3) := by decide +kernel
theorem dX1_onlyColumn_36 : decode cX1_onlyColumn 36 = .ok (.iload_n 2, 1) := by decide +kernel
theorem dX1_onlyColumn_37 : decode cX1_onlyColumn 37 = .ok (.iaload, 1) := by decide +kernel
theorem dX1_onlyColumn_38 : decode cX1_onlyColumn 38 = .ok (.bipush 97, 2) := by decide +kernel
theorem dX1_onlyColumn_40 : decode cX1_onlyColumn 40 = .ok (.isub, 1) := by decide +kernel
theorem dX1_onlyColumn_41 : decode cX1_onlyColumn 41 = .ok (.if_icmp .eq 6, 3) := by decide +kernel
theorem dX1_onlyColumn_44 : decode cX1_onlyColumn 44 = .ok (.ldc 40, 2) := by decide +kernel
theorem dX1_onlyColumn_46 : decode cX1_onlyColumn 46 = .ok (.ireturn, 1) := by decide +kernel
theorem dX1_onlyColumn_47 : decode cX1_onlyColumn 47 = .ok (.aload_n 0, 1) := by decide +kernel
theorem dX1_onlyColumn_48 : decode cX1_onlyColumn 48 = .ok (.getfield 9, 3) := by decide +kernel
theorem dX1_onlyColumn_51 : decode cX1_onlyColumn 51 = .ok (.iload_n 2, 1) := by decide +kernel
theorem dX1_onlyColumn_52 : decode cX1_onlyColumn 52 = .ok (.iaload, 1) := by decide +kernel
theorem dX1_onlyColumn_53 : decode cX1_onlyColumn 53 = .ok (.bipush 97, 2) := by decide +kernel
theorem dX1_onlyColumn_55 : decode cX1_onlyColumn 55 = .ok (.isub, 1) := by decide +kernel
theorem dX1_onlyColumn_56 : decode cX1_onlyColumn 56 = .ok (.istore_n 1, 1) := by decide +kernel
theorem dX1_onlyColumn_57 : decode cX1_onlyColumn 57 = .ok (.iinc 2 1, 3) := by decide +kernel
theorem dX1_onlyColumn_60 : decode cX1_onlyColumn 60 = .ok (.goto (-55), 3) := by decide +kernel
theorem dX1_onlyColumn_63 : decode cX1_onlyColumn 63 = .ok (.iload_n 1, 1) := by decide +kernel
theorem dX1_onlyColumn_64 : decode cX1_onlyColumn 64 = .ok (.ireturn, 1) := by decide +kernel
theorem dX2_init_0 : decode cX2_init 0 = .ok (.aload_n 0, 1) := by decide +kernel
theorem dX2_init_1 : decode cX2_init 1 = .ok (.invokespecial 3, 3) := by decide +kernel
theorem dX2_init_4 : decode cX2_init 4 = .ok (.aload_n 0, 1) := by decide +kernel
theorem dX2_init_5 : decode cX2_init 5 = .ok (.aload_n 1, 1) := by decide +kernel
theorem dX2_init_6 : decode cX2_init 6 = .ok (.putfield 9, 3) := by decide +kernel
theorem dX2_init_9 : decode cX2_init 9 = .ok (.aload_n 0, 1) := by decide +kernel
theorem dX2_init_10 : decode cX2_init 10 = .ok (.bipush 60, 2) := by decide +kernel
theorem dX2_init_12 : decode cX2_init 12 = .ok (.newarray .int, 2) := by decide +kernel
theorem dX2_init_14 : decode cX2_init 14 = .ok (.putfield 15, 3) := by decide +kernel
theorem dX2_init_17 : decode cX2_init 17 = .ok (.aload_n 0, 1) := by decide +kernel
theorem dX2_init_18 : decode cX2_init 18 = .ok (.bipush 60, 2) := by decide +kernel
theorem dX2_init_20 : decode cX2_init 20 = .ok (.newarray .int, 2) := by decide +kernel
theorem dX2_init_22 : decode cX2_init 22 = .ok (.putfield 19, 3) := by decide +kernel
theorem dX2_init_25 : decode cX2_init 25 = .ok (.aload_n 0, 1) := by decide +kernel
theorem dX2_init_26 : decode cX2_init 26 = .ok (.bipush 60, 2) := by decide +kernel
theorem dX2_init_28 : decode cX2_init 28 = .ok (.newarray .int, 2) := by decide +kernel
theorem dX2_init_30 : decode cX2_init 30 = .ok (.putfield 22, 3) := by decide +kernel
theorem dX2_init_33 : decode cX2_init 33 = .ok (.return_, 1) := by decide +kernel
theorem dX2_judge_0 : decode cX2_judge 0 = .ok (.aload_n 0, 1) := by decide +kernel
theorem dX2_judge_1 : decode cX2_judge 1 = .ok (.getfield 9, 3) := by decide +kernel
theorem dX2_judge_4 : decode cX2_judge 4 = .ok (.getfield 25, 3) := by decide +kernel
theorem dX2_judge_7 : decode cX2_judge 7 = .ok (.iconst 1, 1) := by decide +kernel
theorem dX2_judge_8 : decode cX2_judge 8 = .ok (.isub, 1) := by decide +kernel
theorem dX2_judge_9 : decode cX2_judge 9 = .ok (.istore_n 2, 1) := by decide +kernel
theorem dX2_judge_10 : decode cX2_judge 10 = .ok (.iload_n 2, 1) := by decide +kernel
theorem dX2_judge_11 : decode cX2_judge 11 = .ok (.ifCond .lt 68, 3) := by decide +kernel
theorem dX2_judge_14 : decode cX2_judge 14 = .ok (.aload_n 0, 1) := by decide +kernel
theorem dX2_judge_15 : decode cX2_judge 15 = .ok (.getfield 9, 3) := by decide +kernel
theorem dX2_judge_18 : decode cX2_judge 18 = .ok (.getfield 31, 3) := by decide +kernel
theorem dX2_judge_21 : decode cX2_judge 21 = .ok (.iload_n 2, 1) := by decide +kernel
theorem dX2_judge_22 : decode cX2_judge 22 = .ok (.iaload, 1) := by decide +kernel
theorem dX2_judge_23 : decode cX2_judge 23 = .ok (.iconst 1, 1) := by decide +kernel
theorem dX2_judge_24 : decode cX2_judge 24 = .ok (.if_icmp .ne 18, 3) := by decide +kernel
theorem dX2_judge_27 : decode cX2_judge 27 = .ok (.aload_n 0, 1) := by decide +kernel
theorem dX2_judge_28 : decode cX2_judge 28 = .ok (.getfield 15, 3) := by decide +kernel
theorem dX2_judge_31 : decode cX2_judge 31 = .ok (.iload_n 2, 1) := by decide +kernel
theorem dX2_judge_32 : decode cX2_judge 32 = .ok (.aload_n 0, 1) := by decide +kernel
theorem dX2_judge_33 : decode cX2_judge 33 = .ok (.iload_n 2, 1) := by decide +kernel
theorem dX2_judge_34 : decode cX2_judge 34 = .ok (.aload_n 1, 1) := by decide +kernel
theorem dX2_judge_35 : decode cX2_judge 35 = .ok (.invokevirtual 34, 3) := by decide +kernel
theorem dX2_judge_38 : decode cX2_judge 38 = .ok (.iastore, 1) := by decide +kernel
theorem dX2_judge_39 : decode cX2_judge 39 = .ok (.goto 34, 3) := by decide +kernel
theorem dX2_judge_42 : decode cX2_judge 42 = .ok (.aload_n 0, 1) := by decide +kernel
theorem dX2_judge_43 : decode cX2_judge 43 = .ok (.getfield 9, 3) := by decide +kernel
theorem dX2_judge_46 : decode cX2_judge 46 = .ok (.getfield 31, 3) := by decide +kernel
theorem dX2_judge_49 : decode cX2_judge 49 = .ok (.iload_n 2, 1) := by decide +kernel
theorem dX2_judge_50 : decode cX2_judge 50 = .ok (.iaload, 1) := by decide +kernel
theorem dX2_judge_51 : decode cX2_judge 51 = .ok (.iconst 2, 1) := by decide +kernel
theorem dX2_judge_52 : decode cX2_judge 52 = .ok (.if_icmp .ne 21, 3) := by decide +kernel
theorem dX2_judge_55 : decode cX2_judge 55 = .ok (.aload_n 0, 1) := by decide +kernel
theorem dX2_judge_56 : decode cX2_judge 56 = .ok (.getfield 15, 3) := by decide +kernel
theorem dX2_judge_59 : decode cX2_judge 59 = .ok (.iload_n 2, 1) := by decide +kernel
theorem dX2_judge_60 : decode cX2_judge 60 = .ok (.aload_n 0, 1) := by decide +kernel
theorem dX2_judge_61 : decode cX2_judge 61 = .ok (.iload_n 2, 1) := by decide +kernel
theorem dX2_judge_62 : decode cX2_judge 62 = .ok (.aload_n 1, 1) := by decide +kernel
theorem dX2_judge_63 : decode cX2_judge 63 = .ok (.invokevirtual 38, 3) := by decide +kernel
theorem dX2_judge_66 : decode cX2_judge 66 = .ok (.iastore, 1) := by decide +kernel
theorem dX2_judge_67 : decode cX2_judge 67 = .ok (.aload_n 0, 1) := by decide +kernel
theorem dX2_judge_68 : decode cX2_judge 68 = .ok (.iload_n 2, 1) := by decide +kernel
theorem dX2_judge_69 : decode cX2_judge 69 = .ok (.aload_n 1, 1) := by decide +kernel
theorem dX2_judge_70 : decode cX2_judge 70 = .ok (.invokevirtual 41, 3) := by decide +kernel
theorem dX2_judge_73 : decode cX2_judge 73 = .ok (.iinc 2 (-1), 3) := by decide +kernel
theorem dX2_judge_76 : decode cX2_judge 76 = .ok (.goto (-66), 3) := by decide +kernel
theorem dX2_judge_79 : decode cX2_judge 79 = .ok (.return_, 1) := by decide +kernel
theorem dX2_chancesAt_0 : decode cX2_chancesAt 0 = .ok (.aload_n 0, 1) := by decide +kernel
theorem dX2_chancesAt_1 : decode cX2_chancesAt 1 = .ok (.getfield 9, 3) := by decide +kernel
theorem dX2_chancesAt_4 : decode cX2_chancesAt 4 = .ok (.getfield 45, 3) := by decide +kernel
theorem dX2_chancesAt_7 : decode cX2_chancesAt 7 = .ok (.iload_n 1, 1) := by decide +kernel
theorem dX2_chancesAt_8 : decode cX2_chancesAt 8 = .ok (.iaload, 1) := by decide +kernel
theorem dX2_chancesAt_9 : decode cX2_chancesAt 9 = .ok (.istore_n 3, 1) := by decide +kernel
theorem dX2_chancesAt_10 : decode cX2_chancesAt 10 = .ok (.iload_n 3, 1) := by decide +kernel
theorem dX2_chancesAt_11 : decode cX2_chancesAt 11 = .ok (.bipush 109, 2) := by decide +kernel
theorem dX2_chancesAt_13 : decode cX2_chancesAt 13 = .ok (.if_icmp .ne 24, 3) := by decide +kernel
theorem dX2_chancesAt_16 : decode cX2_chancesAt 16 = .ok (.aload_n 0, 1) := by decide +kernel
theorem dX2_chancesAt_17 : decode cX2_chancesAt 17 = .ok (.getfield 9, 3) := by decide +kernel
theorem dX2_chancesAt_20 : decode cX2_chancesAt 20 = .ok (.getfield 45, 3) := by decide +kernel
theorem dX2_chancesAt_23 : decode cX2_chancesAt 23 = .ok (.iload_n 1, 1) := by decide +kernel
theorem dX2_chancesAt_24 : decode cX2_chancesAt 24 = .ok (.iconst 1, 1) := by decide +kernel
theorem dX2_chancesAt_25 : decode cX2_chancesAt 25 = .ok (.iadd, 1) := by decide +kernel
theorem dX2_chancesAt_26 : decode cX2_chancesAt 26 = .ok (.invokestatic 48, 3) := by decide +kernel
theorem dX2_chancesAt_29 : decode cX2_chancesAt 29 = .ok (.bipush 97, 2) := by decide +kernel
theorem dX2_chancesAt_31 : decode cX2_chancesAt 31 = .ok (.isub, 1) := by decide +kernel
theorem dX2_chancesAt_32 : decode cX2_chancesAt 32 = .ok (.aload_n 2, 1) := by decide +kernel
theorem dX2_chancesAt_33 : decode cX2_chancesAt 33 = .ok (.invokestatic 52, 3) := by decide +kernel
theorem dX2_chancesAt_36 : decode cX2_chancesAt 36 = .ok (.ireturn, 1) := by decide +kernel
theorem dX2_chancesAt_37 : decode cX2_chancesAt 37 = .ok (.iload_n 1, 1) := by decide +kernel
theorem dX2_chancesAt_38 : decode cX2_chancesAt 38 = .ok (.iconst 1, 1) := by decide +kernel
theorem dX2_chancesAt_39 : decode cX2_chancesAt 39 = .ok (.iadd, 1) := by decide +kernel
theorem dX2_chancesAt_40 : decode cX2_chancesAt 40 = .ok (.istore 4, 2) := by decide +kernel
theorem dX2_chancesAt_42 : decode cX2_chancesAt 42 = .ok (.aload_n 0, 1) := by decide +kernel
theorem dX2_chancesAt_43 : decode cX2_chancesAt 43 = .ok (.getfield 9, 3) := by decide +kernel
theorem dX2_chancesAt_46 : decode cX2_chancesAt 46 = .ok (.getfield 55, 3) := by decide +kernel
theorem dX2_chancesAt_49 : decode cX2_chancesAt 49 = .ok (.iload_n 1, 1) := by decide +kernel
theorem dX2_chancesAt_50 : decode cX2_chancesAt 50 = .ok (.iaload, 1) := by decide +kernel
theorem dX2_chancesAt_51 : decode cX2_chancesAt 51 = .ok (.istore 5, 2) := by decide +kernel
theorem dX2_chancesAt_53 : decode cX2_chancesAt 53 = .ok (.iload_n 3, 1) := by decide +kernel
theorem dX2_chancesAt_54 : decode cX2_chancesAt 54 = .ok (.bipush 60, 2) := by decide +kernel
theorem dX2_chancesAt_56 : decode cX2_chancesAt 56 = .ok (.if_icmp .eq 9, 3) := by decide +kernel
theorem dX2_chancesAt_59 : decode cX2_chancesAt 59 = .ok (.iload_n 3, 1) := by decide +kernel
theorem dX2_chancesAt_60 : decode cX2_chancesAt 60 = .ok (.bipush 61, 2) := by decide +kernel
theorem dX2_chancesAt_62 : decode cX2_chancesAt 62 = .ok (.if_icmp .ne 13, 3) := by decide +kernel
theorem dX2_chancesAt_65 : decode cX2_chancesAt 65 = .ok (.aload_n 0, 1) := by decide +kernel
theorem dX2_chancesAt_66 : decode cX2_chancesAt 66 = .ok (.iload_n 3, 1) := by decide +kernel
theorem dX2_chancesAt_67 : decode cX2_chancesAt 67 = .ok (.iload 4, 2) := by decide +kernel
theorem dX2_chancesAt_69 : decode cX2_chancesAt 69 = .ok (.iload 5, 2) := by decide +kernel
theorem dX2_chancesAt_71 : decode cX2_chancesAt 71 = .ok (.invokevirtual 58, 3) := by decide +kernel
theorem dX2_chancesAt_74 : decode cX2_chancesAt 74 = .ok (.ireturn, 1) := by decide +kernel
theorem dX2_chancesAt_75 : decode cX2_chancesAt 75 = .ok (.iload_n 3, 1) := by decide +kernel
theorem dX2_chancesAt_76 : decode cX2_chancesAt 76 = .ok (.bipush 33, 2) := by decide +kernel
theorem dX2_chancesAt_78 : decode cX2_chancesAt 78 = .ok (.if_icmp .ne 16, 3) := by decide +kernel
theorem dX2_chancesAt_81 : decode cX2_chancesAt 81 = .ok (.aload_n 0, 1) := by decide +kernel
theorem dX2_chancesAt_82 : decode cX2_chancesAt 82 = .ok (.getfield 15, 3) := by decide +kernel
theorem dX2_chancesAt_85 : decode cX2_chancesAt 85 = .ok (.iload 4, 2) := by decide +kernel
theorem dX2_chancesAt_87 : decode cX2_chancesAt 87 = .ok (.invokestatic 48, 3) := by decide +kernel
theorem dX2_chancesAt_90 : decode cX2_chancesAt 90 = .ok (.invokestatic 62, 3) := by decide +kernel
theorem dX2_chancesAt_93 : decode cX2_chancesAt 93 = .ok (.ireturn, 1) := by decide +kernel
theorem dX2_chancesAt_94 : decode cX2_chancesAt 94 = .ok (.iload_n 3, 1) := by decide +kernel
theorem dX2_chancesAt_95 : decode cX2_chancesAt 95 = .ok (.aload_n 0, 1) := by decide +kernel
theorem dX2_chancesAt_96 : decode cX2_chancesAt 96 = .ok (.getfield 15, 3) := by decide +kernel
theorem dX2_chancesAt_99 : decode cX2_chancesAt 99 = .ok (.iload 4, 2) := by decide +kernel
theorem dX2_chancesAt_101 : decode cX2_chancesAt 101 = .ok (.invokestatic 48, 3) := by decide +kernel
theorem dX2_chancesAt_104 : decode cX2_chancesAt 104 = .ok (.aload_n 0, 1) := by decide +kernel
theorem dX2_chancesAt_105 : decode cX2_chancesAt 105 = .ok (.getfield 15, 3) := by decide +kernel
theorem dX2_chancesAt_108 : decode cX2_chancesAt 108 = .ok (.iload 5, 2) := by decide +kernel
theorem dX2_chancesAt_110 : decode cX2_chancesAt 110 = .ok (.invokestatic 48, 3) := by decide +kernel
theorem dX2_chancesAt_113 : decode cX2_chancesAt 113 = .ok (.invokestatic 66, 3) := by decide +kernel
theorem dX2_chancesAt_116 : decode cX2_chancesAt 116 = .ok (.ireturn, 1) := by decide +kernel
theorem dX2_missingChances_0 : decode cX2_missingChances 0 = .ok (.iload_n 0, 1) := by decide +kernel
theorem dX2_missingChances_1 : decode cX2_missingChances 1 = .ok (.invokestatic 69, 3) := by decide +kernel
theorem dX2_missingChances_4 : decode cX2_missingChances 4 = .ok (.ifCond .ne 5, 3) := by decide +kernel
theorem dX2_missingChances_7 : decode cX2_missingChances 7 = .ok (.iconst 0, 1) := by decide +kernel
theorem dX2_missingChances_8 : decode cX2_missingChances 8 = .ok (.ireturn, 1) := by decide +kernel
theorem dX2_missingChances_9 : decode cX2_missingChances 9 = .ok (.aload_n 1, 1) := by decide +kernel
theorem dX2_missingChances_10 : decode cX2_missingChances 10 = .ok (.getfield 73, 3) := by decide +kernel
theorem dX2_missingChances_13 : decode cX2_missingChances 13 = .ok (.iload_n 0, 1) := by decide +kernel
theorem dX2_missingChances_14 : decode cX2_missingChances 14 = .ok (.aaload, 1) := by decide +kernel
theorem dX2_missingChances_15 : decode cX2_missingChances 15 = .ok (.getfield 79, 3) := by decide +kernel
theorem dX2_missingChances_18 : decode cX2_missingChances 18 = .ok (.istore_n 2, 1) := by decide +kernel
theorem dX2_missingChances_19 : decode cX2_missingChances 19 = .ok (.iload_n 2, 1) := by decide +kernel
theorem dX2_missingChances_20 : decode cX2_missingChances 20 = .ok (.ifCond .le 7, 3) := by decide +kernel
theorem dX2_missingChances_23 : decode cX2_missingChances 23 = .ok (.iconst 1, 1) := by decide +kernel
theorem dX2_missingChances_24 : decode cX2_missingChances 24 = .ok (.goto 4, 3) := by decide +kernel
theorem dX2_missingChances_27 : decode cX2_missingChances 27 = .ok (.iconst 0, 1) := by decide +kernel
theorem dX2_missingChances_28 : decode cX2_missingChances 28 = .ok (.istore_n 3, 1) := by decide +kernel
theorem dX2_missingChances_29 : decode cX2_missingChances 29 = .ok (.iload_n 2, 1) := by decide +kernel
theorem dX2_missingChances_30 : decode cX2_missingChances 30 = .ok (.aload_n 1, 1) := by decide +kernel
theorem dX2_missingChances_31 : decode cX2_missingChances 31 = .ok (.getfield 84, 3) := by decide +kernel
theorem dX2_missingChances_34 : decode cX2_missingChances 34 = .ok (.if_icmp .ge 9, 3) := by decide +kernel
theorem dX2_missingChances_37 : decode cX2_missingChances 37 = .ok (.iload_n 3, 1) := by decide +kernel
theorem dX2_missingChances_38 : decode cX2_missingChances 38 = .ok (.iconst 2, 1) := by decide +kernel
theorem dX2_missingChances_39 : decode cX2_missingChances 39 = .ok (.ior, 1) := by decide +kernel
theorem dX2_missingChances_40 : decode cX2_missingChances 40 = .ok (.goto 4, 3) := by decide +kernel
theorem dX2_missingChances_43 : decode cX2_missingChances 43 = .ok (.iload_n 3, 1) := by decide +kernel
theorem dX2_missingChances_44 : decode cX2_missingChances 44 = .ok (.ireturn, 1) := by decide +kernel
theorem dX2_comparedChances_0 : decode cX2_comparedChances 0 = .ok (.aload_n 0, 1) := by decide +kernel
theorem dX2_comparedChances_1 : decode cX2_comparedChances 1 = .ok (.getfield 15, 3) := by decide +kernel
theorem dX2_comparedChances_4 : decode cX2_comparedChances 4 = .ok (.iload_n 2, 1) := by decide +kernel
theorem dX2_comparedChances_5 : decode cX2_comparedChances 5 = .ok (.invokestatic 48, 3) := by decide +kernel
theorem dX2_comparedChances_8 : decode cX2_comparedChances 8 = .ok (.istore 4, 2) := by decide +kernel
theorem dX2_comparedChances_10 : decode cX2_comparedChances 10 = .ok (.aload_n 0, 1) := by decide +kernel
theorem dX2_comparedChances_11 : decode cX2_comparedChances 11 = .ok (.getfield 15, 3) := by decide +kernel
theorem dX2_comparedChances_14 : decode cX2_comparedChances 14 = .ok (.iload_n 3, 1) := by decide +kernel
theorem dX2_comparedChances_15 : decode cX2_comparedChances 15 = .ok (.invokestatic 48, 3) := by decide +kernel
theorem dX2_comparedChances_18 : decode cX2_comparedChances 18 = .ok (.istore 5, 2) := by decide +kernel
theorem dX2_comparedChances_20 : decode cX2_comparedChances 20 = .ok (.iload 4, 2) := by decide +kernel
theorem dX2_comparedChances_22 : decode cX2_comparedChances 22 = .ok (.iload 5, 2) := by decide +kernel
theorem dX2_comparedChances_24 : decode cX2_comparedChances 24 = .ok (.ior, 1) := by decide +kernel
theorem dX2_comparedChances_25 : decode cX2_comparedChances 25 = .ok (.iconst 2, 1) := by decide +kernel
theorem dX2_comparedChances_26 : decode cX2_comparedChances 26 = .ok (.iand, 1) := by decide +kernel
theorem dX2_comparedChances_27 : decode cX2_comparedChances 27 = .ok (.ifCond .eq 7, 3) := by decide +kernel
theorem dX2_comparedChances_30 : decode cX2_comparedChances 30 = .ok (.iconst 4, 1) := by decide +kernel
theorem dX2_comparedChances_31 : decode cX2_comparedChances 31 = .ok (.goto 4, 3) := by decide +kernel
theorem dX2_comparedChances_34 : decode cX2_comparedChances 34 = .ok (.iconst 0, 1) := by decide +kernel
theorem dX2_comparedChances_35 : decode cX2_comparedChances 35 = .ok (.istore 6, 2) := by decide +kernel
theorem dX2_comparedChances_37 : decode cX2_comparedChances 37 = .ok (.iload 4, 2) := by decide +kernel
theorem dX2_comparedChances_39 : decode cX2_comparedChances 39 = .ok (.iload 5, 2) := by decide +kernel
theorem dX2_comparedChances_41 : decode cX2_comparedChances 41 = .ok (.iand, 1) := by decide +kernel
theorem dX2_comparedChances_42 : decode cX2_comparedChances 42 = .ok (.iconst 1, 1) := by decide +kernel
theorem dX2_comparedChances_43 : decode cX2_comparedChances 43 = .ok (.iand, 1) := by decide +kernel
theorem dX2_comparedChances_44 : decode cX2_comparedChances 44 = .ok (.ifCond .ne 6, 3) := by decide +kernel
theorem dX2_comparedChances_47 : decode cX2_comparedChances 47 = .ok (.iload 6, 2) := by decide +kernel
theorem dX2_comparedChances_49 : decode cX2_comparedChances 49 = .ok (.ireturn, 1) := by decide +kernel
theorem dX2_comparedChances_50 : decode cX2_comparedChances 50 = .ok (.aload_n 0, 1) := by decide +kernel
theorem dX2_comparedChances_51 : decode cX2_comparedChances 51 = .ok (.getfield 19, 3) := by decide +kernel
theorem dX2_comparedChances_54 : decode cX2_comparedChances 54 = .ok (.iload_n 2, 1) := by decide +kernel
theorem dX2_comparedChances_55 : decode cX2_comparedChances 55 = .ok (.invokestatic 48, 3) := by decide +kernel
theorem dX2_comparedChances_58 : decode cX2_comparedChances 58 = .ok (.istore 7, 2) := by decide +kernel
theorem dX2_comparedChances_60 : decode cX2_comparedChances 60 = .ok (.aload_n 0, 1) := by decide +kernel
theorem dX2_comparedChances_61 : decode cX2_comparedChances 61 = .ok (.getfield 22, 3) := by decide +kernel
theorem dX2_comparedChances_64 : decode cX2_comparedChances 64 = .ok (.iload_n 2, 1) := by decide +kernel
theorem dX2_comparedChances_65 : decode cX2_comparedChances 65 = .ok (.invokestatic 48, 3) := by decide +kernel
theorem dX2_comparedChances_68 : decode cX2_comparedChances 68 = .ok (.istore 8, 2) := by decide +kernel
theorem dX2_comparedChances_70 : decode cX2_comparedChances 70 = .ok (.aload_n 0, 1) := by decide +kernel
theorem dX2_comparedChances_71 : decode cX2_comparedChances 71 = .ok (.getfield 19, 3) := by decide +kernel
theorem dX2_comparedChances_74 : decode cX2_comparedChances 74 = .ok (.iload_n 3, 1) := by decide +kernel
theorem dX2_comparedChances_75 : decode cX2_comparedChances 75 = .ok (.invokestatic 48, 3) := by decide +kernel
theorem dX2_comparedChances_78 : decode cX2_comparedChances 78 = .ok (.istore 9, 2) := by decide +kernel
theorem dX2_comparedChances_80 : decode cX2_comparedChances 80 = .ok (.aload_n 0, 1) := by decide +kernel
theorem dX2_comparedChances_81 : decode cX2_comparedChances 81 = .ok (.getfield 22, 3) := by decide +kernel
theorem dX2_comparedChances_84 : decode cX2_comparedChances 84 = .ok (.iload_n 3, 1) := by decide +kernel
theorem dX2_comparedChances_85 : decode cX2_comparedChances 85 = .ok (.invokestatic 48, 3) := by decide +kernel
theorem dX2_comparedChances_88 : decode cX2_comparedChances 88 = .ok (.istore 10, 2) := by decide +kernel
theorem dX2_comparedChances_90 : decode cX2_comparedChances 90 = .ok (.iload_n 1, 1) := by decide +kernel
theorem dX2_comparedChances_91 : decode cX2_comparedChances 91 = .ok (.bipush 60, 2) := by decide +kernel
theorem dX2_comparedChances_93 : decode cX2_comparedChances 93 = .ok (.if_icmp .ne 18, 3) := by decide +kernel
theorem dX2_comparedChances_96 : decode cX2_comparedChances 96 = .ok (.iload 7, 2) := by decide +kernel
theorem dX2_comparedChances_98 : decode cX2_comparedChances 98 = .ok (.iload 10, 2) := by decide +kernel
theorem dX2_comparedChances_100 : decode cX2_comparedChances 100 = .ok (.if_icmp .ge 7, 3) := by decide +kernel
theorem dX2_comparedChances_103 : decode cX2_comparedChances 103 = .ok (.iconst 1, 1) := by decide +kernel
theorem dX2_comparedChances_104 : decode cX2_comparedChances 104 = .ok (.goto 26, 3) := by decide +kernel
theorem dX2_comparedChances_107 : decode cX2_comparedChances 107 = .ok (.iconst 0, 1) := by decide +kernel
theorem dX2_comparedChances_108 : decode cX2_comparedChances 108 = .ok (.goto 22, 3) := by decide +kernel
theorem dX2_comparedChances_111 : decode cX2_comparedChances 111 = .ok (.iload 7, 2) := by decide +kernel
theorem dX2_comparedChances_113 : decode cX2_comparedChances 113 = .ok (.iload 10, 2) := by decide +kernel
theorem dX2_comparedChances_115 : decode cX2_comparedChances 115 = .ok (.if_icmp .gt 14, 3) := by decide +kernel
theorem dX2_comparedChances_118 : decode cX2_comparedChances 118 = .ok (.iload 9, 2) := by decide +kernel
theorem dX2_comparedChances_120 : decode cX2_comparedChances 120 = .ok (.iload 8, 2) := by decide +kernel
theorem dX2_comparedChances_122 : decode cX2_comparedChances 122 = .ok (.if_icmp .gt 7, 3) := by decide +kernel
theorem dX2_comparedChances_125 : decode cX2_comparedChances 125 = .ok (.iconst 1, 1) := by decide +kernel
theorem dX2_comparedChances_126 : decode cX2_comparedChances 126 = .ok (.goto 4, 3) := by decide +kernel
theorem dX2_comparedChances_129 : decode cX2_comparedChances 129 = .ok (.iconst 0, 1) := by decide +kernel
theorem dX2_comparedChances_130 : decode cX2_comparedChances 130 = .ok (.istore 11, 2) := by decide +kernel
theorem dX2_comparedChances_132 : decode cX2_comparedChances 132 = .ok (.iload 7, 2) := by decide +kernel
theorem dX2_comparedChances_134 : decode cX2_comparedChances 134 = .ok (.iload 8, 2) := by decide +kernel
theorem dX2_comparedChances_136 : decode cX2_comparedChances 136 = .ok (.if_icmp .ne 21, 3) := by decide +kernel
theorem dX2_comparedChances_139 : decode cX2_comparedChances 139 = .ok (.iload 7, 2) := by decide +kernel
theorem dX2_comparedChances_141 : decode cX2_comparedChances 141 = .ok (.iload 9, 2) := by decide +kernel
theorem dX2_comparedChances_143 : decode cX2_comparedChances 143 = .ok (.if_icmp .ne 14, 3) := by decide +kernel
theorem dX2_comparedChances_146 : decode cX2_comparedChances 146 = .ok (.iload 7, 2) := by decide +kernel
theorem dX2_comparedChances_148 : decode cX2_comparedChances 148 = .ok (.iload 10, 2) := by decide +kernel
theorem dX2_comparedChances_150 : decode cX2_comparedChances 150 = .ok (.if_icmp .ne 7, 3) := by decide +kernel
theorem dX2_comparedChances_153 : decode cX2_comparedChances 153 = .ok (.iconst 1, 1) := by decide +kernel
theorem dX2_comparedChances_154 : decode cX2_comparedChances 154 = .ok (.goto 4, 3) := by decide +kernel
theorem dX2_comparedChances_157 : decode cX2_comparedChances 157 = .ok (.iconst 0, 1) := by decide +kernel
theorem dX2_comparedChances_158 : decode cX2_comparedChances 158 = .ok (.istore 12, 2) := by decide +kernel
theorem dX2_comparedChances_160 : decode cX2_comparedChances 160 = .ok (.iload_n 1, 1) := by decide +kernel
theorem dX2_comparedChances_161 : decode cX2_comparedChances 161 = .ok (.bipush 60, 2) := by decide +kernel
theorem dX2_comparedChances_163 : decode cX2_comparedChances 163 = .ok (.if_icmp .ne 18, 3) := by decide +kernel
theorem dX2_comparedChances_166 : decode cX2_comparedChances 166 = .ok (.iload 8, 2) := by decide +kernel
theorem dX2_comparedChances_168 : decode cX2_comparedChances 168 = .ok (.iload 9, 2) := by decide +kernel
theorem dX2_comparedChances_170 : decode cX2_comparedChances 170 = .ok (.if_icmp .lt 7, 3) := by decide +kernel
theorem dX2_comparedChances_173 : decode cX2_comparedChances 173 = .ok (.iconst 1, 1) := by decide +kernel
theorem dX2_comparedChances_174 : decode cX2_comparedChances 174 = .ok (.goto 17, 3) := by decide +kernel
theorem dX2_comparedChances_177 : decode cX2_comparedChances 177 = .ok (.iconst 0, 1) := by decide +kernel
theorem dX2_comparedChances_178 : decode cX2_comparedChances 178 = .ok (.goto 13, 3) := by decide +kernel
theorem dX2_comparedChances_181 : decode cX2_comparedChances 181 = .ok (.iload 12, 2) := by decide +kernel
theorem dX2_comparedChances_183 : decode cX2_comparedChances 183 = .ok (.ifCond .ne 7, 3) := by decide +kernel
theorem dX2_comparedChances_186 : decode cX2_comparedChances 186 = .ok (.iconst 1, 1) := by decide +kernel
theorem dX2_comparedChances_187 : decode cX2_comparedChances 187 = .ok (.goto 4, 3) := by decide +kernel
theorem dX2_comparedChances_190 : decode cX2_comparedChances 190 = .ok (.iconst 0, 1) := by decide +kernel
theorem dX2_comparedChances_191 : decode cX2_comparedChances 191 = .ok (.istore 13, 2) := by decide +kernel
theorem dX2_comparedChances_193 : decode cX2_comparedChances 193 = .ok (.iload 6, 2) := by decide +kernel
theorem dX2_comparedChances_195 : decode cX2_comparedChances 195 = .ok (.iload 11, 2) := by decide +kernel
theorem dX2_comparedChances_197 : decode cX2_comparedChances 197 = .ok (.ifCond .eq 7, 3) := by decide +kernel
theorem dX2_comparedChances_200 : decode cX2_comparedChances 200 = .ok (.iconst 1, 1) := by decide +kernel
theorem dX2_comparedChances_201 : decode cX2_comparedChances 201 = .ok (.goto 4, 3) := by decide +kernel
theorem dX2_comparedChances_204 : decode cX2_comparedChances 204 = .ok (.iconst 0, 1) := by decide +kernel
theorem dX2_comparedChances_205 : decode cX2_comparedChances 205 = .ok (.ior, 1) := by decide +kernel
theorem dX2_comparedChances_206 : decode cX2_comparedChances 206 = .ok (.iload 13, 2) := by decide +kernel
theorem dX2_comparedChances_208 : decode cX2_comparedChances 208 = .ok (.ifCond .eq 7, 3) := by decide +kernel
theorem dX2_comparedChances_211 : decode cX2_comparedChances 211 = .ok (.iconst 2, 1) := by decide +kernel
theorem dX2_comparedChances_212 : decode cX2_comparedChances 212 = .ok (.goto 4, 3) := by decide +kernel
theorem dX2_comparedChances_215 : decode cX2_comparedChances 215 = .ok (.iconst 0, 1) := by decide +kernel
theorem dX2_comparedChances_216 : decode cX2_comparedChances 216 = .ok (.ior, 1) := by decide +kernel
theorem dX2_comparedChances_217 : decode cX2_comparedChances 217 = .ok (.ireturn, 1) := by decide +kernel
theorem dX2_notChances_0 : decode cX2_notChances 0 = .ok (.iconst 0, 1) := by decide +kernel
theorem dX2_notChances_1 : decode cX2_notChances 1 = .ok (.istore_n 1, 1) := by decide +kernel
theorem dX2_notChances_2 : decode cX2_notChances 2 = .ok (.iconst 0, 1) := by decide +kernel
theorem dX2_notChances_3 : decode cX2_notChances 3 = .ok (.istore_n 2, 1) := by decide +kernel
theorem dX2_notChances_4 : decode cX2_notChances 4 = .ok (.iload_n 2, 1) := by decide +kernel
theorem dX2_notChances_5 : decode cX2_notChances 5 = .ok (.iconst 2, 1) := by decide +kernel
theorem dX2_notChances_6 : decode cX2_notChances 6 = .ok (.if_icmp .gt 28, 3) := by decide +kernel
theorem dX2_notChances_9 : decode cX2_notChances 9 = .ok (.iload_n 0, 1) := by decide +kernel
theorem dX2_notChances_10 : decode cX2_notChances 10 = .ok (.iload_n 2, 1) := by decide +kernel
theorem dX2_notChances_11 : decode cX2_notChances 11 = .ok (.invokestatic 87, 3) := by decide +kernel
theorem dX2_notChances_14 : decode cX2_notChances 14 = .ok (.iand, 1) := by decide +kernel
theorem dX2_notChances_15 : decode cX2_notChances 15 = .ok (.ifCond .eq 13, 3) := by decide +kernel
theorem dX2_notChances_18 : decode cX2_notChances 18 = .ok (.iload_n 1, 1) := by decide +kernel
theorem dX2_notChances_19 : decode cX2_notChances 19 = .ok (.iload_n 2, 1) := by decide +kernel
theorem dX2_notChances_20 : decode cX2_notChances 20 = .ok (.invokestatic 90, 3) := by decide +kernel
theorem dX2_notChances_23 : decode cX2_notChances 23 = .ok (.invokestatic 87, 3) := by decide +kernel
theorem dX2_notChances_26 : decode cX2_notChances 26 = .ok (.ior, 1) := by decide +kernel
theorem dX2_notChances_27 : decode cX2_notChances 27 = .ok (.istore_n 1, 1) := by decide +kernel
theorem dX2_notChances_28 : decode cX2_notChances 28 = .ok (.iinc 2 1, 3) := by decide +kernel
theorem dX2_notChances_31 : decode cX2_notChances 31 = .ok (.goto (-27), 3) := by decide +kernel
theorem dX2_notChances_34 : decode cX2_notChances 34 = .ok (.iload_n 1, 1) := by decide +kernel
theorem dX2_notChances_35 : decode cX2_notChances 35 = .ok (.ireturn, 1) := by decide +kernel
theorem dX2_joinedChances_0 : decode cX2_joinedChances 0 = .ok (.iconst 0, 1) := by decide +kernel
theorem dX2_joinedChances_1 : decode cX2_joinedChances 1 = .ok (.istore_n 3, 1) := by decide +kernel
theorem dX2_joinedChances_2 : decode cX2_joinedChances 2 = .ok (.iconst 0, 1) := by decide +kernel
theorem dX2_joinedChances_3 : decode cX2_joinedChances 3 = .ok (.istore 4, 2) := by decide +kernel
theorem dX2_joinedChances_5 : decode cX2_joinedChances 5 = .ok (.iload 4, 2) := by decide +kernel
theorem dX2_joinedChances_7 : decode cX2_joinedChances 7 = .ok (.iconst 2, 1) := by decide +kernel
theorem dX2_joinedChances_8 : decode cX2_joinedChances 8 = .ok (.if_icmp .gt 73, 3) := by decide +kernel
theorem dX2_joinedChances_11 : decode cX2_joinedChances 11 = .ok (.iconst 0, 1) := by decide +kernel
theorem dX2_joinedChances_12 : decode cX2_joinedChances 12 = .ok (.istore 5, 2) := by decide +kernel
theorem dX2_joinedChances_14 : decode cX2_joinedChances 14 = .ok (.iload 5, 2) := by decide +kernel
theorem dX2_joinedChances_16 : decode cX2_joinedChances 16 = .ok (.iconst 2, 1) := by decide +kernel
theorem dX2_joinedChances_17 : decode cX2_joinedChances 17 = .ok (.if_icmp .gt 58, 3) := by decide +kernel
theorem dX2_joinedChances_20 : decode cX2_joinedChances 20 = .ok (.iload_n 1, 1) := by decide +kernel
theorem dX2_joinedChances_21 : decode cX2_joinedChances 21 = .ok (.iload 4, 2) := by decide +kernel
theorem dX2_joinedChances_23 : decode cX2_joinedChances 23 = .ok (.invokestatic 87, 3) := by decide +kernel
theorem dX2_joinedChances_26 : decode cX2_joinedChances 26 = .ok (.iand, 1) := by decide +kernel
theorem dX2_joinedChances_27 : decode cX2_joinedChances 27 = .ok (.ifCond .eq 42, 3) := by decide +kernel
theorem dX2_joinedChances_30 : decode cX2_joinedChances 30 = .ok (.iload_n 2, 1) := by decide +kernel
theorem dX2_joinedChances_31 : decode cX2_joinedChances 31 = .ok (.iload 5, 2) := by decide +kernel
theorem dX2_joinedChances_33 : decode cX2_joinedChances 33 = .ok (.invokestatic 87, 3) := by decide +kernel
theorem dX2_joinedChances_36 : decode cX2_joinedChances 36 = .ok (.iand, 1) := by decide +kernel
theorem dX2_joinedChances_37 : decode cX2_joinedChances 37 = .ok (.ifCond .eq 32, 3) := by decide +kernel
theorem dX2_joinedChances_40 : decode cX2_joinedChances 40 = .ok (.iload_n 3, 1) := by decide +kernel
theorem dX2_joinedChances_41 : decode cX2_joinedChances 41 = .ok (.iload_n 0, 1) := by decide +kernel
theorem dX2_joinedChances_42 : decode cX2_joinedChances 42 = .ok (.bipush 38, 2) := by decide +kernel
theorem dX2_joinedChances_44 : decode cX2_joinedChances 44 = .ok (.if_icmp .ne 13, 3) := by decide +kernel
theorem dX2_joinedChances_47 : decode cX2_joinedChances 47 = .ok (.iload 4, 2) := by decide +kernel
theorem dX2_joinedChances_49 : decode cX2_joinedChances 49 = .ok (.iload 5, 2) := by decide +kernel
theorem dX2_joinedChances_51 : decode cX2_joinedChances 51 = .ok (.invokestatic 93, 3) := by decide +kernel
theorem dX2_joinedChances_54 : decode cX2_joinedChances 54 = .ok (.goto 10, 3) := by decide +kernel
theorem dX2_joinedChances_57 : decode cX2_joinedChances 57 = .ok (.iload 4, 2) := by decide +kernel
theorem dX2_joinedChances_59 : decode cX2_joinedChances 59 = .ok (.iload 5, 2) := by decide +kernel
theorem dX2_joinedChances_61 : decode cX2_joinedChances 61 = .ok (.invokestatic 97, 3) := by decide +kernel
theorem dX2_joinedChances_64 : decode cX2_joinedChances 64 = .ok (.invokestatic 87, 3) := by decide +kernel
theorem dX2_joinedChances_67 : decode cX2_joinedChances 67 = .ok (.ior, 1) := by decide +kernel
theorem dX2_joinedChances_68 : decode cX2_joinedChances 68 = .ok (.istore_n 3, 1) := by decide +kernel
theorem dX2_joinedChances_69 : decode cX2_joinedChances 69 = .ok (.iinc 5 1, 3) := by decide +kernel
theorem dX2_joinedChances_72 : decode cX2_joinedChances 72 = .ok (.goto (-58), 3) := by decide +kernel
theorem dX2_joinedChances_75 : decode cX2_joinedChances 75 = .ok (.iinc 4 1, 3) := by decide +kernel
theorem dX2_joinedChances_78 : decode cX2_joinedChances 78 = .ok (.goto (-73), 3) := by decide +kernel
theorem dX2_joinedChances_81 : decode cX2_joinedChances 81 = .ok (.iload_n 3, 1) := by decide +kernel
theorem dX2_joinedChances_82 : decode cX2_joinedChances 82 = .ok (.ireturn, 1) := by decide +kernel
theorem dX2_kindAt_0 : decode cX2_kindAt 0 = .ok (.aload_n 0, 1) := by decide +kernel
theorem dX2_kindAt_1 : decode cX2_kindAt 1 = .ok (.getfield 9, 3) := by decide +kernel
theorem dX2_kindAt_4 : decode cX2_kindAt 4 = .ok (.getfield 45, 3) := by decide +kernel
theorem dX2_kindAt_7 : decode cX2_kindAt 7 = .ok (.iload_n 1, 1) := by decide +kernel
theorem dX2_kindAt_8 : decode cX2_kindAt 8 = .ok (.iaload, 1) := by decide +kernel
theorem dX2_kindAt_9 : decode cX2_kindAt 9 = .ok (.istore_n 3, 1) := by decide +kernel
theorem dX2_kindAt_10 : decode cX2_kindAt 10 = .ok (.iload_n 3, 1) := by decide +kernel
theorem dX2_kindAt_11 : decode cX2_kindAt 11 = .ok (.invokestatic 100, 3) := by decide +kernel
theorem dX2_kindAt_14 : decode cX2_kindAt 14 = .ok (.ifCond .eq 48, 3) := by decide +kernel
theorem dX2_kindAt_17 : decode cX2_kindAt 17 = .ok (.aload_n 2, 1) := by decide +kernel
theorem dX2_kindAt_18 : decode cX2_kindAt 18 = .ok (.getfield 73, 3) := by decide +kernel
theorem dX2_kindAt_21 : decode cX2_kindAt 21 = .ok (.iload_n 3, 1) := by decide +kernel
theorem dX2_kindAt_22 : decode cX2_kindAt 22 = .ok (.bipush 97, 2) := by decide +kernel
theorem dX2_kindAt_24 : decode cX2_kindAt 24 = .ok (.isub, 1) := by decide +kernel
theorem dX2_kindAt_25 : decode cX2_kindAt 25 = .ok (.aaload, 1) := by decide +kernel
theorem dX2_kindAt_26 : decode cX2_kindAt 26 = .ok (.getfield 79, 3) := by decide +kernel
theorem dX2_kindAt_29 : decode cX2_kindAt 29 = .ok (.istore 4, 2) := by decide +kernel
theorem dX2_kindAt_31 : decode cX2_kindAt 31 = .ok (.iload 4, 2) := by decide +kernel
theorem dX2_kindAt_33 : decode cX2_kindAt 33 = .ok (.ifCond .le 7, 3) := by decide +kernel
theorem dX2_kindAt_36 : decode cX2_kindAt 36 = .ok (.iconst 2, 1) := by decide +kernel
theorem dX2_kindAt_37 : decode cX2_kindAt 37 = .ok (.goto 4, 3) := by decide +kernel
theorem dX2_kindAt_40 : decode cX2_kindAt 40 = .ok (.iconst 0, 1) := by decide +kernel
theorem dX2_kindAt_41 : decode cX2_kindAt 41 = .ok (.istore 5, 2) := by decide +kernel
theorem dX2_kindAt_43 : decode cX2_kindAt 43 = .ok (.iload 4, 2) := by decide +kernel
theorem dX2_kindAt_45 : decode cX2_kindAt 45 = .ok (.aload_n 2, 1) := by decide +kernel
theorem dX2_kindAt_46 : decode cX2_kindAt 46 = .ok (.getfield 84, 3) := by decide +kernel
theorem dX2_kindAt_49 : decode cX2_kindAt 49 = .ok (.if_icmp .ge 10, 3) := by decide +kernel
theorem dX2_kindAt_52 : decode cX2_kindAt 52 = .ok (.iload 5, 2) := by decide +kernel
theorem dX2_kindAt_54 : decode cX2_kindAt 54 = .ok (.iconst 1, 1) := by decide +kernel
theorem dX2_kindAt_55 : decode cX2_kindAt 55 = .ok (.ior, 1) := by decide +kernel
theorem dX2_kindAt_56 : decode cX2_kindAt 56 = .ok (.goto 5, 3) := by decide +kernel
theorem dX2_kindAt_59 : decode cX2_kindAt 59 = .ok (.iload 5, 2) := by decide +kernel
theorem dX2_kindAt_61 : decode cX2_kindAt 61 = .ok (.ireturn, 1) := by decide +kernel
theorem dX2_kindAt_62 : decode cX2_kindAt 62 = .ok (.iload_n 3, 1) := by decide +kernel
theorem dX2_kindAt_63 : decode cX2_kindAt 63 = .ok (.invokestatic 103, 3) := by decide +kernel
theorem dX2_kindAt_66 : decode cX2_kindAt 66 = .ok (.ifCond .ne 9, 3) := by decide +kernel
theorem dX2_kindAt_69 : decode cX2_kindAt 69 = .ok (.iload_n 3, 1) := by decide +kernel
theorem dX2_kindAt_70 : decode cX2_kindAt 70 = .ok (.bipush 35, 2) := by decide +kernel
theorem dX2_kindAt_72 : decode cX2_kindAt 72 = .ok (.if_icmp .ne 5, 3) := by decide +kernel
theorem dX2_kindAt_75 : decode cX2_kindAt 75 = .ok (.iconst 1, 1) := by decide +kernel
theorem dX2_kindAt_76 : decode cX2_kindAt 76 = .ok (.ireturn, 1) := by decide +kernel
theorem dX2_kindAt_77 : decode cX2_kindAt 77 = .ok (.aload_n 0, 1) := by decide +kernel
theorem dX2_kindAt_78 : decode cX2_kindAt 78 = .ok (.getfield 15, 3) := by decide +kernel
theorem dX2_kindAt_81 : decode cX2_kindAt 81 = .ok (.iload_n 1, 1) := by decide +kernel
theorem dX2_kindAt_82 : decode cX2_kindAt 82 = .ok (.iconst 1, 1) := by decide +kernel
theorem dX2_kindAt_83 : decode cX2_kindAt 83 = .ok (.iadd, 1) := by decide +kernel
theorem dX2_kindAt_84 : decode cX2_kindAt 84 = .ok (.invokestatic 48, 3) := by decide +kernel
theorem dX2_kindAt_87 : decode cX2_kindAt 87 = .ok (.istore 4, 2) := by decide +kernel
theorem dX2_kindAt_89 : decode cX2_kindAt 89 = .ok (.iload_n 3, 1) := by decide +kernel
theorem dX2_kindAt_90 : decode cX2_kindAt 90 = .ok (.invokestatic 106, 3) := by decide +kernel
theorem dX2_kindAt_93 : decode cX2_kindAt 93 = .ok (.ifCond .ne 6, 3) := by decide +kernel
theorem dX2_kindAt_96 : decode cX2_kindAt 96 = .ok (.iload 4, 2) := by decide +kernel
theorem dX2_kindAt_98 : decode cX2_kindAt 98 = .ok (.ireturn, 1) := by decide +kernel
theorem dX2_kindAt_99 : decode cX2_kindAt 99 = .ok (.aload_n 0, 1) := by decide +kernel
theorem dX2_kindAt_100 : decode cX2_kindAt 100 = .ok (.getfield 15, 3) := by decide +kernel
theorem dX2_kindAt_103 : decode cX2_kindAt 103 = .ok (.aload_n 0, 1) := by decide +kernel
theorem dX2_kindAt_104 : decode cX2_kindAt 104 = .ok (.getfield 9, 3) := by decide +kernel
theorem dX2_kindAt_107 : decode cX2_kindAt 107 = .ok (.getfield 55, 3) := by decide +kernel
theorem dX2_kindAt_110 : decode cX2_kindAt 110 = .ok (.iload_n 1, 1) := by decide +kernel
theorem dX2_kindAt_111 : decode cX2_kindAt 111 = .ok (.iaload, 1) := by decide +kernel
theorem dX2_kindAt_112 : decode cX2_kindAt 112 = .ok (.invokestatic 48, 3) := by decide +kernel
theorem dX2_kindAt_115 : decode cX2_kindAt 115 = .ok (.istore 5, 2) := by decide +kernel
theorem dX2_kindAt_117 : decode cX2_kindAt 117 = .ok (.iload 4, 2) := by decide +kernel
theorem dX2_kindAt_119 : decode cX2_kindAt 119 = .ok (.iload 5, 2) := by decide +kernel
theorem dX2_kindAt_121 : decode cX2_kindAt 121 = .ok (.iand, 1) := by decide +kernel
theorem dX2_kindAt_122 : decode cX2_kindAt 122 = .ok (.iconst 1, 1) := by decide +kernel
theorem dX2_kindAt_123 : decode cX2_kindAt 123 = .ok (.iand, 1) := by decide +kernel
theorem dX2_kindAt_124 : decode cX2_kindAt 124 = .ok (.iload 4, 2) := by decide +kernel
theorem dX2_kindAt_126 : decode cX2_kindAt 126 = .ok (.iload 5, 2) := by decide +kernel
theorem dX2_kindAt_128 : decode cX2_kindAt 128 = .ok (.ior, 1) := by decide +kernel
theorem dX2_kindAt_129 : decode cX2_kindAt 129 = .ok (.iconst 2, 1) := by decide +kernel
theorem dX2_kindAt_130 : decode cX2_kindAt 130 = .ok (.iand, 1) := by decide +kernel
theorem dX2_kindAt_131 : decode cX2_kindAt 131 = .ok (.ior, 1) := by decide +kernel
theorem dX2_kindAt_132 : decode cX2_kindAt 132 = .ok (.ireturn, 1) := by decide +kernel
theorem dX2_findBounds_0 : decode cX2_findBounds 0 = .ok (.aload_n 0, 1) := by decide +kernel
theorem dX2_findBounds_1 : decode cX2_findBounds 1 = .ok (.getfield 9, 3) := by decide +kernel
theorem dX2_findBounds_4 : decode cX2_findBounds 4 = .ok (.getfield 45, 3) := by decide +kernel
theorem dX2_findBounds_7 : decode cX2_findBounds 7 = .ok (.iload_n 1, 1) := by decide +kernel
theorem dX2_findBounds_8 : decode cX2_findBounds 8 = .ok (.iaload, 1) := by decide +kernel
theorem dX2_findBounds_9 : decode cX2_findBounds 9 = .ok (.istore_n 3, 1) := by decide +kernel
theorem dX2_findBounds_10 : decode cX2_findBounds 10 = .ok (.aload_n 0, 1) := by decide +kernel
theorem dX2_findBounds_11 : decode cX2_findBounds 11 = .ok (.getfield 15, 3) := by decide +kernel
theorem dX2_findBounds_14 : decode cX2_findBounds 14 = .ok (.iload_n 1, 1) := by decide +kernel
theorem dX2_findBounds_15 : decode cX2_findBounds 15 = .ok (.iaload, 1) := by decide +kernel
theorem dX2_findBounds_16 : decode cX2_findBounds 16 = .ok (.iconst 1, 1) := by decide +kernel
theorem dX2_findBounds_17 : decode cX2_findBounds 17 = .ok (.iand, 1) := by decide +kernel
theorem dX2_findBounds_18 : decode cX2_findBounds 18 = .ok (.ifCond .ne 13, 3) := by decide +kernel
theorem dX2_findBounds_21 : decode cX2_findBounds 21 = .ok (.aload_n 0, 1) := by decide +kernel
theorem dX2_findBounds_22 : decode cX2_findBounds 22 = .ok (.iload_n 1, 1) := by decide +kernel
theorem dX2_findBounds_23 : decode cX2_findBounds 23 = .ok (.ldc 109, 2) := by decide +kernel
theorem dX2_findBounds_25 : decode cX2_findBounds 25 = .ok (.ldc 109, 2) := by decide +kernel
theorem dX2_findBounds_27 : decode cX2_findBounds 27 = .ok (.invokevirtual 110, 3) := by decide +kernel
theorem dX2_findBounds_30 : decode cX2_findBounds 30 = .ok (.return_, 1) := by decide +kernel
theorem dX2_findBounds_31 : decode cX2_findBounds 31 = .ok (.iload_n 3, 1) := by decide +kernel
theorem dX2_findBounds_32 : decode cX2_findBounds 32 = .ok (.invokestatic 100, 3) := by decide +kernel
theorem dX2_findBounds_35 : decode cX2_findBounds 35 = .ok (.ifCond .eq 30, 3) := by decide +kernel
theorem dX2_findBounds_38 : decode cX2_findBounds 38 = .ok (.aload_n 2, 1) := by decide +kernel
theorem dX2_findBounds_39 : decode cX2_findBounds 39 = .ok (.getfield 73, 3) := by decide +kernel
theorem dX2_findBounds_42 : decode cX2_findBounds 42 = .ok (.iload_n 3, 1) := by decide +kernel
theorem dX2_findBounds_43 : decode cX2_findBounds 43 = .ok (.bipush 97, 2) := by decide +kernel
theorem dX2_findBounds_45 : decode cX2_findBounds 45 = .ok (.isub, 1) := by decide +kernel
theorem dX2_findBounds_46 : decode cX2_findBounds 46 = .ok (.aaload, 1) := by decide +kernel
theorem dX2_findBounds_47 : decode cX2_findBounds 47 = .ok (.astore 4, 2) := by decide +kernel
theorem dX2_findBounds_49 : decode cX2_findBounds 49 = .ok (.aload_n 0, 1) := by decide +kernel
theorem dX2_findBounds_50 : decode cX2_findBounds 50 = .ok (.iload_n 1, 1) := by decide +kernel
theorem dX2_findBounds_51 : decode cX2_findBounds 51 = .ok (.aload 4, 2) := by decide +kernel
theorem dX2_findBounds_53 : decode cX2_findBounds 53 = .ok (.getfield 114, 3) := by decide +kernel
theorem dX2_findBounds_56 : decode cX2_findBounds 56 = .ok (.aload 4, 2) := by decide +kernel
theorem dX2_findBounds_58 : decode cX2_findBounds 58 = .ok (.getfield 117, 3) := by decide +kernel
theorem dX2_findBounds_61 : decode cX2_findBounds 61 = .ok (.invokevirtual 110, 3) := by decide +kernel
theorem dX2_findBounds_64 : decode cX2_findBounds 64 = .ok (.return_, 1) := by decide +kernel
theorem dX2_findBounds_65 : decode cX2_findBounds 65 = .ok (.aload_n 0, 1) := by decide +kernel
theorem dX2_findBounds_66 : decode cX2_findBounds 66 = .ok (.getfield 19, 3) := by decide +kernel
theorem dX2_findBounds_69 : decode cX2_findBounds 69 = .ok (.iload_n 1, 1) := by decide +kernel
theorem dX2_findBounds_70 : decode cX2_findBounds 70 = .ok (.iconst 1, 1) := by decide +kernel
theorem dX2_findBounds_71 : decode cX2_findBounds 71 = .ok (.iadd, 1) := by decide +kernel
theorem dX2_findBounds_72 : decode cX2_findBounds 72 = .ok (.invokestatic 48, 3) := by decide +kernel
theorem dX2_findBounds_75 : decode cX2_findBounds 75 = .ok (.istore 4, 2) := by decide +kernel
theorem dX2_findBounds_77 : decode cX2_findBounds 77 = .ok (.aload_n 0, 1) := by decide +kernel
theorem dX2_findBounds_78 : decode cX2_findBounds 78 = .ok (.getfield 22, 3) := by decide +kernel
theorem dX2_findBounds_81 : decode cX2_findBounds 81 = .ok (.iload_n 1, 1) := by decide +kernel
theorem dX2_findBounds_82 : decode cX2_findBounds 82 = .ok (.iconst 1, 1) := by decide +kernel
theorem dX2_findBounds_83 : decode cX2_findBounds 83 = .ok (.iadd, 1) := by decide +kernel
theorem dX2_findBounds_84 : decode cX2_findBounds 84 = .ok (.invokestatic 48, 3) := by decide +kernel
theorem dX2_findBounds_87 : decode cX2_findBounds 87 = .ok (.istore 5, 2) := by decide +kernel
theorem dX2_findBounds_89 : decode cX2_findBounds 89 = .ok (.iload_n 3, 1) := by decide +kernel
theorem dX2_findBounds_90 : decode cX2_findBounds 90 = .ok (.lookupswitch 140 #[(37, 84), (42, 123), (43, 105), (45, 105), (121, 72), (126, 58)], 58) := by decide +kernel
theorem dX2_findBounds_148 : decode cX2_findBounds 148 = .ok (.aload_n 0, 1) := by decide +kernel
theorem dX2_findBounds_149 : decode cX2_findBounds 149 = .ok (.iload_n 1, 1) := by decide +kernel
theorem dX2_findBounds_150 : decode cX2_findBounds 150 = .ok (.iload 5, 2) := by decide +kernel
theorem dX2_findBounds_152 : decode cX2_findBounds 152 = .ok (.ineg, 1) := by decide +kernel
theorem dX2_findBounds_153 : decode cX2_findBounds 153 = .ok (.iload 4, 2) := by decide +kernel
theorem dX2_findBounds_155 : decode cX2_findBounds 155 = .ok (.ineg, 1) := by decide +kernel
theorem dX2_findBounds_156 : decode cX2_findBounds 156 = .ok (.invokevirtual 110, 3) := by decide +kernel
theorem dX2_findBounds_159 : decode cX2_findBounds 159 = .ok (.goto 94, 3) := by decide +kernel
theorem dX2_findBounds_162 : decode cX2_findBounds 162 = .ok (.aload_n 0, 1) := by decide +kernel
theorem dX2_findBounds_163 : decode cX2_findBounds 163 = .ok (.iload_n 1, 1) := by decide +kernel
theorem dX2_findBounds_164 : decode cX2_findBounds 164 = .ok (.iload 4, 2) := by decide +kernel
theorem dX2_findBounds_166 : decode cX2_findBounds 166 = .ok (.iload 5, 2) := by decide +kernel
theorem dX2_findBounds_168 : decode cX2_findBounds 168 = .ok (.invokevirtual 120, 3) := by decide +kernel
theorem dX2_findBounds_171 : decode cX2_findBounds 171 = .ok (.goto 82, 3) := by decide +kernel
theorem dX2_findBounds_174 : decode cX2_findBounds 174 = .ok (.aload_n 0, 1) := by decide +kernel
theorem dX2_findBounds_175 : decode cX2_findBounds 175 = .ok (.iload_n 1, 1) := by decide +kernel
theorem dX2_findBounds_176 : decode cX2_findBounds 176 = .ok (.iload 4, 2) := by decide +kernel
theorem dX2_findBounds_178 : decode cX2_findBounds 178 = .ok (.iload 5, 2) := by decide +kernel
theorem dX2_findBounds_180 : decode cX2_findBounds 180 = .ok (.aload_n 0, 1) := by decide +kernel
theorem dX2_findBounds_181 : decode cX2_findBounds 181 = .ok (.getfield 9, 3) := by decide +kernel
theorem dX2_findBounds_184 : decode cX2_findBounds 184 = .ok (.getfield 123, 3) := by decide +kernel
theorem dX2_findBounds_187 : decode cX2_findBounds 187 = .ok (.iload_n 1, 1) := by decide +kernel
theorem dX2_findBounds_188 : decode cX2_findBounds 188 = .ok (.iaload, 1) := by decide +kernel
theorem dX2_findBounds_189 : decode cX2_findBounds 189 = .ok (.invokevirtual 126, 3) := by decide +kernel
theorem dX2_findBounds_192 : decode cX2_findBounds 192 = .ok (.goto 61, 3) := by decide +kernel
theorem dX2_findBounds_195 : decode cX2_findBounds 195 = .ok (.aload_n 0, 1) := by decide +kernel
theorem dX2_findBounds_196 : decode cX2_findBounds 196 = .ok (.iload_n 1, 1) := by decide +kernel
theorem dX2_findBounds_197 : decode cX2_findBounds 197 = .ok (.iload_n 3, 1) := by decide +kernel
theorem dX2_findBounds_198 : decode cX2_findBounds 198 = .ok (.aload_n 0, 1) := by decide +kernel
theorem dX2_findBounds_199 : decode cX2_findBounds 199 = .ok (.getfield 9, 3) := by decide +kernel
theorem dX2_findBounds_202 : decode cX2_findBounds 202 = .ok (.getfield 55, 3) := by decide +kernel
theorem dX2_findBounds_205 : decode cX2_findBounds 205 = .ok (.iload_n 1, 1) := by decide +kernel
theorem dX2_findBounds_206 : decode cX2_findBounds 206 = .ok (.iaload, 1) := by decide +kernel
theorem dX2_findBounds_207 : decode cX2_findBounds 207 = .ok (.invokevirtual 130, 3) := by decide +kernel
theorem dX2_findBounds_210 : decode cX2_findBounds 210 = .ok (.goto 43, 3) := by decide +kernel
theorem dX2_findBounds_213 : decode cX2_findBounds 213 = .ok (.aload_n 0, 1) := by decide +kernel
theorem dX2_findBounds_214 : decode cX2_findBounds 214 = .ok (.iload_n 1, 1) := by decide +kernel
theorem dX2_findBounds_215 : decode cX2_findBounds 215 = .ok (.aload_n 0, 1) := by decide +kernel
theorem dX2_findBounds_216 : decode cX2_findBounds 216 = .ok (.getfield 9, 3) := by decide +kernel
theorem dX2_findBounds_219 : decode cX2_findBounds 219 = .ok (.getfield 55, 3) := by decide +kernel
theorem dX2_findBounds_222 : decode cX2_findBounds 222 = .ok (.iload_n 1, 1) := by decide +kernel
theorem dX2_findBounds_223 : decode cX2_findBounds 223 = .ok (.iaload, 1) := by decide +kernel
theorem dX2_findBounds_224 : decode cX2_findBounds 224 = .ok (.invokevirtual 133, 3) := by decide +kernel
theorem dX2_findBounds_227 : decode cX2_findBounds 227 = .ok (.goto 26, 3) := by decide +kernel
theorem dX2_findBounds_230 : decode cX2_findBounds 230 = .ok (.aload_n 0, 1) := by decide +kernel
theorem dX2_findBounds_231 : decode cX2_findBounds 231 = .ok (.iload_n 1, 1) := by decide +kernel
theorem dX2_findBounds_232 : decode cX2_findBounds 232 = .ok (.aload_n 0, 1) := by decide +kernel
theorem dX2_findBounds_233 : decode cX2_findBounds 233 = .ok (.getfield 9, 3) := by decide +kernel
theorem dX2_findBounds_236 : decode cX2_findBounds 236 = .ok (.getfield 123, 3) := by decide +kernel
theorem dX2_findBounds_239 : decode cX2_findBounds 239 = .ok (.iload_n 1, 1) := by decide +kernel
theorem dX2_findBounds_240 : decode cX2_findBounds 240 = .ok (.iaload, 1) := by decide +kernel
theorem dX2_findBounds_241 : decode cX2_findBounds 241 = .ok (.aload_n 0, 1) := by decide +kernel
theorem dX2_findBounds_242 : decode cX2_findBounds 242 = .ok (.getfield 9, 3) := by decide +kernel
theorem dX2_findBounds_245 : decode cX2_findBounds 245 = .ok (.getfield 123, 3) := by decide +kernel
theorem dX2_findBounds_248 : decode cX2_findBounds 248 = .ok (.iload_n 1, 1) := by decide +kernel
theorem dX2_findBounds_249 : decode cX2_findBounds 249 = .ok (.iaload, 1) := by decide +kernel
theorem dX2_findBounds_250 : decode cX2_findBounds 250 = .ok (.invokevirtual 110, 3) := by decide +kernel
theorem dX2_findBounds_253 : decode cX2_findBounds 253 = .ok (.return_, 1) := by decide +kernel
theorem dX2_sumBounds_0 : decode cX2_sumBounds 0 = .ok (.iload_n 2, 1) := by decide +kernel
theorem dX2_sumBounds_1 : decode cX2_sumBounds 1 = .ok (.bipush 43, 2) := by decide +kernel
theorem dX2_sumBounds_3 : decode cX2_sumBounds 3 = .ok (.if_icmp .ne 10, 3) := by decide +kernel
theorem dX2_sumBounds_6 : decode cX2_sumBounds 6 = .ok (.aload_n 0, 1) := by decide +kernel
theorem dX2_sumBounds_7 : decode cX2_sumBounds 7 = .ok (.getfield 19, 3) := by decide +kernel
theorem dX2_sumBounds_10 : decode cX2_sumBounds 10 = .ok (.goto 7, 3) := by decide +kernel
theorem dX2_sumBounds_13 : decode cX2_sumBounds 13 = .ok (.aload_n 0, 1) := by decide +kernel
theorem dX2_sumBounds_14 : decode cX2_sumBounds 14 = .ok (.getfield 22, 3) := by decide +kernel
theorem dX2_sumBounds_17 : decode cX2_sumBounds 17 = .ok (.iload_n 3, 1) := by decide +kernel
theorem dX2_sumBounds_18 : decode cX2_sumBounds 18 = .ok (.invokestatic 48, 3) := by decide +kernel
theorem dX2_sumBounds_21 : decode cX2_sumBounds 21 = .ok (.istore 4, 2) := by decide +kernel
theorem dX2_sumBounds_23 : decode cX2_sumBounds 23 = .ok (.iload_n 2, 1) := by decide +kernel
theorem dX2_sumBounds_24 : decode cX2_sumBounds 24 = .ok (.bipush 43, 2) := by decide +kernel
theorem dX2_sumBounds_26 : decode cX2_sumBounds 26 = .ok (.if_icmp .ne 10, 3) := by decide +kernel
theorem dX2_sumBounds_29 : decode cX2_sumBounds 29 = .ok (.aload_n 0, 1) := by decide +kernel
theorem dX2_sumBounds_30 : decode cX2_sumBounds 30 = .ok (.getfield 22, 3) := by decide +kernel
theorem dX2_sumBounds_33 : decode cX2_sumBounds 33 = .ok (.goto 7, 3) := by decide +kernel
theorem dX2_sumBounds_36 : decode cX2_sumBounds 36 = .ok (.aload_n 0, 1) := by decide +kernel
theorem dX2_sumBounds_37 : decode cX2_sumBounds 37 = .ok (.getfield 19, 3) := by decide +kernel
theorem dX2_sumBounds_40 : decode cX2_sumBounds 40 = .ok (.iload_n 3, 1) := by decide +kernel
theorem dX2_sumBounds_41 : decode cX2_sumBounds 41 = .ok (.invokestatic 48, 3) := by decide +kernel
theorem dX2_sumBounds_44 : decode cX2_sumBounds 44 = .ok (.istore 5, 2) := by decide +kernel
theorem dX2_sumBounds_46 : decode cX2_sumBounds 46 = .ok (.aload_n 0, 1) := by decide +kernel
theorem dX2_sumBounds_47 : decode cX2_sumBounds 47 = .ok (.iload_n 1, 1) := by decide +kernel
theorem dX2_sumBounds_48 : decode cX2_sumBounds 48 = .ok (.iload_n 2, 1) := by decide +kernel
theorem dX2_sumBounds_49 : decode cX2_sumBounds 49 = .ok (.aload_n 0, 1) := by decide +kernel
theorem dX2_sumBounds_50 : decode cX2_sumBounds 50 = .ok (.getfield 19, 3) := by decide +kernel
theorem dX2_sumBounds_53 : decode cX2_sumBounds 53 = .ok (.iload_n 1, 1) := by decide +kernel
theorem dX2_sumBounds_54 : decode cX2_sumBounds 54 = .ok (.iconst 1, 1) := by decide +kernel
theorem dX2_sumBounds_55 : decode cX2_sumBounds 55 = .ok (.iadd, 1) := by decide +kernel
theorem dX2_sumBounds_56 : decode cX2_sumBounds 56 = .ok (.invokestatic 48, 3) := by decide +kernel
theorem dX2_sumBounds_59 : decode cX2_sumBounds 59 = .ok (.iload 4, 2) := by decide +kernel
theorem dX2_sumBounds_61 : decode cX2_sumBounds 61 = .ok (.invokestatic 137, 3) := by decide +kernel
theorem dX2_sumBounds_64 : decode cX2_sumBounds 64 = .ok (.iload_n 2, 1) := by decide +kernel
theorem dX2_sumBounds_65 : decode cX2_sumBounds 65 = .ok (.aload_n 0, 1) := by decide +kernel
theorem dX2_sumBounds_66 : decode cX2_sumBounds 66 = .ok (.getfield 22, 3) := by decide +kernel
theorem dX2_sumBounds_69 : decode cX2_sumBounds 69 = .ok (.iload_n 1, 1) := by decide +kernel
theorem dX2_sumBounds_70 : decode cX2_sumBounds 70 = .ok (.iconst 1, 1) := by decide +kernel
theorem dX2_sumBounds_71 : decode cX2_sumBounds 71 = .ok (.iadd, 1) := by decide +kernel
theorem dX2_sumBounds_72 : decode cX2_sumBounds 72 = .ok (.invokestatic 48, 3) := by decide +kernel
theorem dX2_sumBounds_75 : decode cX2_sumBounds 75 = .ok (.iload 5, 2) := by decide +kernel
theorem dX2_sumBounds_77 : decode cX2_sumBounds 77 = .ok (.invokestatic 137, 3) := by decide +kernel
theorem dX2_sumBounds_80 : decode cX2_sumBounds 80 = .ok (.invokevirtual 110, 3) := by decide +kernel
theorem dX2_sumBounds_83 : decode cX2_sumBounds 83 = .ok (.return_, 1) := by decide +kernel
theorem dX2_productBounds_0 : decode cX2_productBounds 0 = .ok (.aload_n 0, 1) := by decide +kernel
theorem dX2_productBounds_1 : decode cX2_productBounds 1 = .ok (.getfield 19, 3) := by decide +kernel
theorem dX2_productBounds_4 : decode cX2_productBounds 4 = .ok (.iload_n 1, 1) := by decide +kernel
theorem dX2_productBounds_5 : decode cX2_productBounds 5 = .ok (.iconst 1, 1) := by decide +kernel
theorem dX2_productBounds_6 : decode cX2_productBounds 6 = .ok (.iadd, 1) := by decide +kernel
theorem dX2_productBounds_7 : decode cX2_productBounds 7 = .ok (.invokestatic 48, 3) := by decide +kernel
theorem dX2_productBounds_10 : decode cX2_productBounds 10 = .ok (.istore_n 3, 1) := by decide +kernel
theorem dX2_productBounds_11 : decode cX2_productBounds 11 = .ok (.aload_n 0, 1) := by decide +kernel
theorem dX2_productBounds_12 : decode cX2_productBounds 12 = .ok (.getfield 22, 3) := by decide +kernel
theorem dX2_productBounds_15 : decode cX2_productBounds 15 = .ok (.iload_n 1, 1) := by decide +kernel
theorem dX2_productBounds_16 : decode cX2_productBounds 16 = .ok (.iconst 1, 1) := by decide +kernel
theorem dX2_productBounds_17 : decode cX2_productBounds 17 = .ok (.iadd, 1) := by decide +kernel
theorem dX2_productBounds_18 : decode cX2_productBounds 18 = .ok (.invokestatic 48, 3) := by decide +kernel
theorem dX2_productBounds_21 : decode cX2_productBounds 21 = .ok (.istore 4, 2) := by decide +kernel
theorem dX2_productBounds_23 : decode cX2_productBounds 23 = .ok (.bipush 42, 2) := by decide +kernel
theorem dX2_productBounds_25 : decode cX2_productBounds 25 = .ok (.iload_n 3, 1) := by decide +kernel
theorem dX2_productBounds_26 : decode cX2_productBounds 26 = .ok (.aload_n 0, 1) := by decide +kernel
theorem dX2_productBounds_27 : decode cX2_productBounds 27 = .ok (.getfield 19, 3) := by decide +kernel
theorem dX2_productBounds_30 : decode cX2_productBounds 30 = .ok (.iload_n 2, 1) := by decide +kernel
theorem dX2_productBounds_31 : decode cX2_productBounds 31 = .ok (.invokestatic 48, 3) := by decide +kernel
theorem dX2_productBounds_34 : decode cX2_productBounds 34 = .ok (.invokestatic 137, 3) := by decide +kernel
theorem dX2_productBounds_37 : decode cX2_productBounds 37 = .ok (.istore 5, 2) := by decide +kernel
theorem dX2_productBounds_39 : decode cX2_productBounds 39 = .ok (.bipush 42, 2) := by decide +kernel
theorem dX2_productBounds_41 : decode cX2_productBounds 41 = .ok (.iload_n 3, 1) := by decide +kernel
theorem dX2_productBounds_42 : decode cX2_productBounds 42 = .ok (.aload_n 0, 1) := by decide +kernel
theorem dX2_productBounds_43 : decode cX2_productBounds 43 = .ok (.getfield 22, 3) := by decide +kernel
theorem dX2_productBounds_46 : decode cX2_productBounds 46 = .ok (.iload_n 2, 1) := by decide +kernel
theorem dX2_productBounds_47 : decode cX2_productBounds 47 = .ok (.invokestatic 48, 3) := by decide +kernel
theorem dX2_productBounds_50 : decode cX2_productBounds 50 = .ok (.invokestatic 137, 3) := by decide +kernel
theorem dX2_productBounds_53 : decode cX2_productBounds 53 = .ok (.istore 6, 2) := by decide +kernel
theorem dX2_productBounds_55 : decode cX2_productBounds 55 = .ok (.bipush 42, 2) := by decide +kernel
theorem dX2_productBounds_57 : decode cX2_productBounds 57 = .ok (.iload 4, 2) := by decide +kernel
theorem dX2_productBounds_59 : decode cX2_productBounds 59 = .ok (.aload_n 0, 1) := by decide +kernel
theorem dX2_productBounds_60 : decode cX2_productBounds 60 = .ok (.getfield 19, 3) := by decide +kernel
theorem dX2_productBounds_63 : decode cX2_productBounds 63 = .ok (.iload_n 2, 1) := by decide +kernel
theorem dX2_productBounds_64 : decode cX2_productBounds 64 = .ok (.invokestatic 48, 3) := by decide +kernel
theorem dX2_productBounds_67 : decode cX2_productBounds 67 = .ok (.invokestatic 137, 3) := by decide +kernel
theorem dX2_productBounds_70 : decode cX2_productBounds 70 = .ok (.istore 7, 2) := by decide +kernel
theorem dX2_productBounds_72 : decode cX2_productBounds 72 = .ok (.bipush 42, 2) := by decide +kernel
theorem dX2_productBounds_74 : decode cX2_productBounds 74 = .ok (.iload 4, 2) := by decide +kernel
theorem dX2_productBounds_76 : decode cX2_productBounds 76 = .ok (.aload_n 0, 1) := by decide +kernel
theorem dX2_productBounds_77 : decode cX2_productBounds 77 = .ok (.getfield 22, 3) := by decide +kernel
theorem dX2_productBounds_80 : decode cX2_productBounds 80 = .ok (.iload_n 2, 1) := by decide +kernel
theorem dX2_productBounds_81 : decode cX2_productBounds 81 = .ok (.invokestatic 48, 3) := by decide +kernel
theorem dX2_productBounds_84 : decode cX2_productBounds 84 = .ok (.invokestatic 137, 3) := by decide +kernel
theorem dX2_productBounds_87 : decode cX2_productBounds 87 = .ok (.istore 8, 2) := by decide +kernel
theorem dX2_productBounds_89 : decode cX2_productBounds 89 = .ok (.iload 5, 2) := by decide +kernel
theorem dX2_productBounds_91 : decode cX2_productBounds 91 = .ok (.iload 6, 2) := by decide +kernel
theorem dX2_productBounds_93 : decode cX2_productBounds 93 = .ok (.invokestatic 140, 3) := by decide +kernel
theorem dX2_productBounds_96 : decode cX2_productBounds 96 = .ok (.iload 7, 2) := by decide +kernel
theorem dX2_productBounds_98 : decode cX2_productBounds 98 = .ok (.iload 8, 2) := by decide +kernel
theorem dX2_productBounds_100 : decode cX2_productBounds 100 = .ok (.invokestatic 140, 3) := by decide +kernel
theorem dX2_productBounds_103 : decode cX2_productBounds 103 = .ok (.invokestatic 140, 3) := by decide +kernel
theorem dX2_productBounds_106 : decode cX2_productBounds 106 = .ok (.istore 9, 2) := by decide +kernel
theorem dX2_productBounds_108 : decode cX2_productBounds 108 = .ok (.iload 5, 2) := by decide +kernel
theorem dX2_productBounds_110 : decode cX2_productBounds 110 = .ok (.iload 6, 2) := by decide +kernel
theorem dX2_productBounds_112 : decode cX2_productBounds 112 = .ok (.invokestatic 145, 3) := by decide +kernel
theorem dX2_productBounds_115 : decode cX2_productBounds 115 = .ok (.iload 7, 2) := by decide +kernel
theorem dX2_productBounds_117 : decode cX2_productBounds 117 = .ok (.iload 8, 2) := by decide +kernel
theorem dX2_productBounds_119 : decode cX2_productBounds 119 = .ok (.invokestatic 145, 3) := by decide +kernel
theorem dX2_productBounds_122 : decode cX2_productBounds 122 = .ok (.invokestatic 145, 3) := by decide +kernel
theorem dX2_productBounds_125 : decode cX2_productBounds 125 = .ok (.istore 10, 2) := by decide +kernel
theorem dX2_productBounds_127 : decode cX2_productBounds 127 = .ok (.aload_n 0, 1) := by decide +kernel
theorem dX2_productBounds_128 : decode cX2_productBounds 128 = .ok (.iload_n 1, 1) := by decide +kernel
theorem dX2_productBounds_129 : decode cX2_productBounds 129 = .ok (.iload 9, 2) := by decide +kernel
theorem dX2_productBounds_131 : decode cX2_productBounds 131 = .ok (.iload 10, 2) := by decide +kernel
theorem dX2_productBounds_133 : decode cX2_productBounds 133 = .ok (.invokevirtual 110, 3) := by decide +kernel
theorem dX2_productBounds_136 : decode cX2_productBounds 136 = .ok (.return_, 1) := by decide +kernel
theorem dX2_byteBounds_0 : decode cX2_byteBounds 0 = .ok (.iload_n 2, 1) := by decide +kernel
theorem dX2_byteBounds_1 : decode cX2_byteBounds 1 = .ok (.i2b, 1) := by decide +kernel
theorem dX2_byteBounds_2 : decode cX2_byteBounds 2 = .ok (.istore 4, 2) := by decide +kernel
theorem dX2_byteBounds_4 : decode cX2_byteBounds 4 = .ok (.iload_n 3, 1) := by decide +kernel
theorem dX2_byteBounds_5 : decode cX2_byteBounds 5 = .ok (.i2b, 1) := by decide +kernel
theorem dX2_byteBounds_6 : decode cX2_byteBounds 6 = .ok (.istore 5, 2) := by decide +kernel
theorem dX2_byteBounds_8 : decode cX2_byteBounds 8 = .ok (.iload_n 3, 1) := by decide +kernel
theorem dX2_byteBounds_9 : decode cX2_byteBounds 9 = .ok (.iload_n 2, 1) := by decide +kernel
theorem dX2_byteBounds_10 : decode cX2_byteBounds 10 = .ok (.isub, 1) := by decide +kernel
theorem dX2_byteBounds_11 : decode cX2_byteBounds 11 = .ok (.sipush 256, 3) := by decide +kernel
theorem dX2_byteBounds_14 : decode cX2_byteBounds 14 = .ok (.if_icmp .ge 22, 3) := by decide +kernel
theorem dX2_byteBounds_17 : decode cX2_byteBounds 17 = .ok (.iload 4, 2) := by decide +kernel
theorem dX2_byteBounds_19 : decode cX2_byteBounds 19 = .ok (.iload 5, 2) := by decide +kernel
theorem dX2_byteBounds_21 : decode cX2_byteBounds 21 = .ok (.if_icmp .gt 15, 3) := by decide +kernel
theorem dX2_byteBounds_24 : decode cX2_byteBounds 24 = .ok (.aload_n 0, 1) := by decide +kernel
theorem dX2_byteBounds_25 : decode cX2_byteBounds 25 = .ok (.iload_n 1, 1) := by decide +kernel
theorem dX2_byteBounds_26 : decode cX2_byteBounds 26 = .ok (.iload 4, 2) := by decide +kernel
theorem dX2_byteBounds_28 : decode cX2_byteBounds 28 = .ok (.iload 5, 2) := by decide +kernel
theorem dX2_byteBounds_30 : decode cX2_byteBounds 30 = .ok (.invokevirtual 110, 3) := by decide +kernel
theorem dX2_byteBounds_33 : decode cX2_byteBounds 33 = .ok (.goto 12, 3) := by decide +kernel
theorem dX2_byteBounds_36 : decode cX2_byteBounds 36 = .ok (.aload_n 0, 1) := by decide +kernel
theorem dX2_byteBounds_37 : decode cX2_byteBounds 37 = .ok (.iload_n 1, 1) := by decide +kernel
theorem dX2_byteBounds_38 : decode cX2_byteBounds 38 = .ok (.bipush (-128), 2) := by decide +kernel
theorem dX2_byteBounds_40 : decode cX2_byteBounds 40 = .ok (.bipush 127, 2) := by decide +kernel
theorem dX2_byteBounds_42 : decode cX2_byteBounds 42 = .ok (.invokevirtual 110, 3) := by decide +kernel
theorem dX2_byteBounds_45 : decode cX2_byteBounds 45 = .ok (.return_, 1) := by decide +kernel
theorem dX2_leftOverBounds_0 : decode cX2_leftOverBounds 0 = .ok (.iload 4, 2) := by decide +kernel
theorem dX2_leftOverBounds_2 : decode cX2_leftOverBounds 2 = .ok (.iconst 1, 1) := by decide +kernel
theorem dX2_leftOverBounds_3 : decode cX2_leftOverBounds 3 = .ok (.if_icmp .ge 4, 3) := by decide +kernel
theorem dX2_leftOverBounds_6 : decode cX2_leftOverBounds 6 = .ok (.return_, 1) := by decide +kernel
theorem dX2_leftOverBounds_7 : decode cX2_leftOverBounds 7 = .ok (.iload_n 2, 1) := by decide +kernel
theorem dX2_leftOverBounds_8 : decode cX2_leftOverBounds 8 = .ok (.ifCond .ge 11, 3) := by decide +kernel
theorem dX2_leftOverBounds_11 : decode cX2_leftOverBounds 11 = .ok (.iload_n 3, 1) := by decide +kernel
theorem dX2_leftOverBounds_12 : decode cX2_leftOverBounds 12 = .ok (.ifCond .le 7, 3) := by decide +kernel
theorem dX2_leftOverBounds_15 : decode cX2_leftOverBounds 15 = .ok (.iconst 1, 1) := by decide +kernel
theorem dX2_leftOverBounds_16 : decode cX2_leftOverBounds 16 = .ok (.goto 4, 3) := by decide +kernel
theorem dX2_leftOverBounds_19 : decode cX2_leftOverBounds 19 = .ok (.iconst 0, 1) := by decide +kernel
theorem dX2_leftOverBounds_20 : decode cX2_leftOverBounds 20 = .ok (.istore 5, 2) := by decide +kernel
theorem dX2_leftOverBounds_22 : decode cX2_leftOverBounds 22 = .ok (.iload_n 2, 1) := by decide +kernel
theorem dX2_leftOverBounds_23 : decode cX2_leftOverBounds 23 = .ok (.iload 4, 2) := by decide +kernel
theorem dX2_leftOverBounds_25 : decode cX2_leftOverBounds 25 = .ok (.idiv, 1) := by decide +kernel
theorem dX2_leftOverBounds_26 : decode cX2_leftOverBounds 26 = .ok (.iload_n 3, 1) := by decide +kernel
theorem dX2_leftOverBounds_27 : decode cX2_leftOverBounds 27 = .ok (.iload 4, 2) := by decide +kernel
theorem dX2_leftOverBounds_29 : decode cX2_leftOverBounds 29 = .ok (.idiv, 1) := by decide +kernel
theorem dX2_leftOverBounds_30 : decode cX2_leftOverBounds 30 = .ok (.if_icmp .ne 22, 3) := by decide +kernel
theorem dX2_leftOverBounds_33 : decode cX2_leftOverBounds 33 = .ok (.iload 5, 2) := by decide +kernel
theorem dX2_leftOverBounds_35 : decode cX2_leftOverBounds 35 = .ok (.ifCond .ne 17, 3) := by decide +kernel
theorem dX2_leftOverBounds_38 : decode cX2_leftOverBounds 38 = .ok (.aload_n 0, 1) := by decide +kernel
theorem dX2_leftOverBounds_39 : decode cX2_leftOverBounds 39 = .ok (.iload_n 1, 1) := by decide +kernel
theorem dX2_leftOverBounds_40 : decode cX2_leftOverBounds 40 = .ok (.iload_n 2, 1) := by decide +kernel
theorem dX2_leftOverBounds_41 : decode cX2_leftOverBounds 41 = .ok (.iload 4, 2) := by decide +kernel
theorem dX2_leftOverBounds_43 : decode cX2_leftOverBounds 43 = .ok (.irem, 1) := by decide +kernel
theorem dX2_leftOverBounds_44 : decode cX2_leftOverBounds 44 = .ok (.iload_n 3, 1) := by decide +kernel
theorem dX2_leftOverBounds_45 : decode cX2_leftOverBounds 45 = .ok (.iload 4, 2) := by decide +kernel
theorem dX2_leftOverBounds_47 : decode cX2_leftOverBounds 47 = .ok (.irem, 1) := by decide +kernel
theorem dX2_leftOverBounds_48 : decode cX2_leftOverBounds 48 = .ok (.invokevirtual 110, 3) := by decide +kernel
theorem dX2_leftOverBounds_51 : decode cX2_leftOverBounds 51 = .ok (.return_, 1) := by decide +kernel
theorem dX2_leftOverBounds_52 : decode cX2_leftOverBounds 52 = .ok (.iload_n 2, 1) := by decide +kernel
theorem dX2_leftOverBounds_53 : decode cX2_leftOverBounds 53 = .ok (.ifCond .lt 7, 3) := by decide +kernel
theorem dX2_leftOverBounds_56 : decode cX2_leftOverBounds 56 = .ok (.iconst 0, 1) := by decide +kernel
theorem dX2_leftOverBounds_57 : decode cX2_leftOverBounds 57 = .ok (.goto 11, 3) := by decide +kernel
theorem dX2_leftOverBounds_60 : decode cX2_leftOverBounds 60 = .ok (.iload_n 2, 1) := by decide +kernel
theorem dX2_leftOverBounds_61 : decode cX2_leftOverBounds 61 = .ok (.iconst 1, 1) := by decide +kernel
theorem dX2_leftOverBounds_62 : decode cX2_leftOverBounds 62 = .ok (.iload 4, 2) := by decide +kernel
theorem dX2_leftOverBounds_64 : decode cX2_leftOverBounds 64 = .ok (.isub, 1) := by decide +kernel
theorem dX2_leftOverBounds_65 : decode cX2_leftOverBounds 65 = .ok (.invokestatic 145, 3) := by decide +kernel
theorem dX2_leftOverBounds_68 : decode cX2_leftOverBounds 68 = .ok (.istore 6, 2) := by decide +kernel
theorem dX2_leftOverBounds_70 : decode cX2_leftOverBounds 70 = .ok (.iload_n 3, 1) := by decide +kernel
theorem dX2_leftOverBounds_71 : decode cX2_leftOverBounds 71 = .ok (.ifCond .gt 7, 3) := by decide +kernel
theorem dX2_leftOverBounds_74 : decode cX2_leftOverBounds 74 = .ok (.iconst 0, 1) := by decide +kernel
theorem dX2_leftOverBounds_75 : decode cX2_leftOverBounds 75 = .ok (.goto 11, 3) := by decide +kernel
theorem dX2_leftOverBounds_78 : decode cX2_leftOverBounds 78 = .ok (.iload_n 3, 1) := by decide +kernel
theorem dX2_leftOverBounds_79 : decode cX2_leftOverBounds 79 = .ok (.iload 4, 2) := by decide +kernel
theorem dX2_leftOverBounds_81 : decode cX2_leftOverBounds 81 = .ok (.iconst 1, 1) := by decide +kernel
theorem dX2_leftOverBounds_82 : decode cX2_leftOverBounds 82 = .ok (.isub, 1) := by decide +kernel
theorem dX2_leftOverBounds_83 : decode cX2_leftOverBounds 83 = .ok (.invokestatic 140, 3) := by decide +kernel
theorem dX2_leftOverBounds_86 : decode cX2_leftOverBounds 86 = .ok (.istore 7, 2) := by decide +kernel
theorem dX2_leftOverBounds_88 : decode cX2_leftOverBounds 88 = .ok (.aload_n 0, 1) := by decide +kernel
theorem dX2_leftOverBounds_89 : decode cX2_leftOverBounds 89 = .ok (.iload_n 1, 1) := by decide +kernel
theorem dX2_leftOverBounds_90 : decode cX2_leftOverBounds 90 = .ok (.iload 6, 2) := by decide +kernel
theorem dX2_leftOverBounds_92 : decode cX2_leftOverBounds 92 = .ok (.iload 7, 2) := by decide +kernel
theorem dX2_leftOverBounds_94 : decode cX2_leftOverBounds 94 = .ok (.invokevirtual 110, 3) := by decide +kernel
theorem dX2_leftOverBounds_97 : decode cX2_leftOverBounds 97 = .ok (.return_, 1) := by decide +kernel
theorem dX2_setBounds_0 : decode cX2_setBounds 0 = .ok (.aload_n 0, 1) := by decide +kernel
theorem dX2_setBounds_1 : decode cX2_setBounds 1 = .ok (.getfield 19, 3) := by decide +kernel
theorem dX2_setBounds_4 : decode cX2_setBounds 4 = .ok (.iload_n 1, 1) := by decide +kernel
theorem dX2_setBounds_5 : decode cX2_setBounds 5 = .ok (.iload_n 2, 1) := by decide +kernel
theorem dX2_setBounds_6 : decode cX2_setBounds 6 = .ok (.iastore, 1) := by decide +kernel
theorem dX2_setBounds_7 : decode cX2_setBounds 7 = .ok (.aload_n 0, 1) := by decide +kernel
theorem dX2_setBounds_8 : decode cX2_setBounds 8 = .ok (.getfield 22, 3) := by decide +kernel
theorem dX2_setBounds_11 : decode cX2_setBounds 11 = .ok (.iload_n 1, 1) := by decide +kernel
theorem dX2_setBounds_12 : decode cX2_setBounds 12 = .ok (.iload_n 3, 1) := by decide +kernel
theorem dX2_setBounds_13 : decode cX2_setBounds 13 = .ok (.iastore, 1) := by decide +kernel
theorem dX2_setBounds_14 : decode cX2_setBounds 14 = .ok (.return_, 1) := by decide +kernel
theorem dX3_init_0 : decode cX3_init 0 = .ok (.aload_n 0, 1) := by decide +kernel
theorem dX3_init_1 : decode cX3_init 1 = .ok (.invokespecial 3, 3) := by decide +kernel
theorem dX3_init_4 : decode cX3_init 4 = .ok (.aload_n 0, 1) := by decide +kernel
theorem dX3_init_5 : decode cX3_init 5 = .ok (.aload_n 1, 1) := by decide +kernel
theorem dX3_init_6 : decode cX3_init 6 = .ok (.putfield 9, 3) := by decide +kernel
theorem dX3_init_9 : decode cX3_init 9 = .ok (.aload_n 0, 1) := by decide +kernel
theorem dX3_init_10 : decode cX3_init 10 = .ok (.bipush 60, 2) := by decide +kernel
theorem dX3_init_12 : decode cX3_init 12 = .ok (.newarray .int, 2) := by decide +kernel
theorem dX3_init_14 : decode cX3_init 14 = .ok (.putfield 15, 3) := by decide +kernel
theorem dX3_init_17 : decode cX3_init 17 = .ok (.return_, 1) := by decide +kernel
theorem dX3_judge_0 : decode cX3_judge 0 = .ok (.aload_n 0, 1) := by decide +kernel
theorem dX3_judge_1 : decode cX3_judge 1 = .ok (.getfield 9, 3) := by decide +kernel
theorem dX3_judge_4 : decode cX3_judge 4 = .ok (.getfield 19, 3) := by decide +kernel
theorem dX3_judge_7 : decode cX3_judge 7 = .ok (.iconst 1, 1) := by decide +kernel
theorem dX3_judge_8 : decode cX3_judge 8 = .ok (.isub, 1) := by decide +kernel
theorem dX3_judge_9 : decode cX3_judge 9 = .ok (.istore_n 2, 1) := by decide +kernel
theorem dX3_judge_10 : decode cX3_judge 10 = .ok (.iload_n 2, 1) := by decide +kernel
theorem dX3_judge_11 : decode cX3_judge 11 = .ok (.ifCond .lt 62, 3) := by decide +kernel
theorem dX3_judge_14 : decode cX3_judge 14 = .ok (.aload_n 0, 1) := by decide +kernel
theorem dX3_judge_15 : decode cX3_judge 15 = .ok (.getfield 9, 3) := by decide +kernel
theorem dX3_judge_18 : decode cX3_judge 18 = .ok (.getfield 25, 3) := by decide +kernel
theorem dX3_judge_21 : decode cX3_judge 21 = .ok (.iload_n 2, 1) := by decide +kernel
theorem dX3_judge_22 : decode cX3_judge 22 = .ok (.iaload, 1) := by decide +kernel
theorem dX3_judge_23 : decode cX3_judge 23 = .ok (.iconst 1, 1) := by decide +kernel
theorem dX3_judge_24 : decode cX3_judge 24 = .ok (.if_icmp .ne 18, 3) := by decide +kernel
theorem dX3_judge_27 : decode cX3_judge 27 = .ok (.aload_n 0, 1) := by decide +kernel
theorem dX3_judge_28 : decode cX3_judge 28 = .ok (.getfield 15, 3) := by decide +kernel
theorem dX3_judge_31 : decode cX3_judge 31 = .ok (.iload_n 2, 1) := by decide +kernel
theorem dX3_judge_32 : decode cX3_judge 32 = .ok (.aload_n 0, 1) := by decide +kernel
theorem dX3_judge_33 : decode cX3_judge 33 = .ok (.iload_n 2, 1) := by decide +kernel
theorem dX3_judge_34 : decode cX3_judge 34 = .ok (.aload_n 1, 1) := by decide +kernel
theorem dX3_judge_35 : decode cX3_judge 35 = .ok (.invokevirtual 28, 3) := by decide +kernel
theorem dX3_judge_38 : decode cX3_judge 38 = .ok (.iastore, 1) := by decide +kernel
theorem dX3_judge_39 : decode cX3_judge 39 = .ok (.goto 28, 3) := by decide +kernel
theorem dX3_judge_42 : decode cX3_judge 42 = .ok (.aload_n 0, 1) := by decide +kernel
theorem dX3_judge_43 : decode cX3_judge 43 = .ok (.getfield 9, 3) := by decide +kernel
theorem dX3_judge_46 : decode cX3_judge 46 = .ok (.getfield 25, 3) := by decide +kernel
theorem dX3_judge_49 : decode cX3_judge 49 = .ok (.iload_n 2, 1) := by decide +kernel
theorem dX3_judge_50 : decode cX3_judge 50 = .ok (.iaload, 1) := by decide +kernel
theorem dX3_judge_51 : decode cX3_judge 51 = .ok (.iconst 2, 1) := by decide +kernel
theorem dX3_judge_52 : decode cX3_judge 52 = .ok (.if_icmp .ne 15, 3) := by decide +kernel
theorem dX3_judge_55 : decode cX3_judge 55 = .ok (.aload_n 0, 1) := by decide +kernel
theorem dX3_judge_56 : decode cX3_judge 56 = .ok (.getfield 15, 3) := by decide +kernel
theorem dX3_judge_59 : decode cX3_judge 59 = .ok (.iload_n 2, 1) := by decide +kernel
theorem dX3_judge_60 : decode cX3_judge 60 = .ok (.aload_n 0, 1) := by decide +kernel
theorem dX3_judge_61 : decode cX3_judge 61 = .ok (.iload_n 2, 1) := by decide +kernel
theorem dX3_judge_62 : decode cX3_judge 62 = .ok (.aload_n 1, 1) := by decide +kernel
theorem dX3_judge_63 : decode cX3_judge 63 = .ok (.invokevirtual 32, 3) := by decide +kernel
theorem dX3_judge_66 : decode cX3_judge 66 = .ok (.iastore, 1) := by decide +kernel
theorem dX3_judge_67 : decode cX3_judge 67 = .ok (.iinc 2 (-1), 3) := by decide +kernel
theorem dX3_judge_70 : decode cX3_judge 70 = .ok (.goto (-60), 3) := by decide +kernel
theorem dX3_judge_73 : decode cX3_judge 73 = .ok (.aload_n 0, 1) := by decide +kernel
theorem dX3_judge_74 : decode cX3_judge 74 = .ok (.getfield 15, 3) := by decide +kernel
theorem dX3_judge_77 : decode cX3_judge 77 = .ok (.iconst 0, 1) := by decide +kernel
theorem dX3_judge_78 : decode cX3_judge 78 = .ok (.iaload, 1) := by decide +kernel
theorem dX3_judge_79 : decode cX3_judge 79 = .ok (.ireturn, 1) := by decide +kernel
theorem dX3_truthAt_0 : decode cX3_truthAt 0 = .ok (.aload_n 0, 1) := by decide +kernel
theorem dX3_truthAt_1 : decode cX3_truthAt 1 = .ok (.getfield 9, 3) := by decide +kernel
theorem dX3_truthAt_4 : decode cX3_truthAt 4 = .ok (.getfield 35, 3) := by decide +kernel
theorem dX3_truthAt_7 : decode cX3_truthAt 7 = .ok (.iload_n 1, 1) := by decide +kernel
theorem dX3_truthAt_8 : decode cX3_truthAt 8 = .ok (.iaload, 1) := by decide +kernel
theorem dX3_truthAt_9 : decode cX3_truthAt 9 = .ok (.istore_n 3, 1) := by decide +kernel
theorem dX3_truthAt_10 : decode cX3_truthAt 10 = .ok (.iload_n 3, 1) := by decide +kernel
theorem dX3_truthAt_11 : decode cX3_truthAt 11 = .ok (.bipush 109, 2) := by decide +kernel
theorem dX3_truthAt_13 : decode cX3_truthAt 13 = .ok (.if_icmp .ne 39, 3) := by decide +kernel
theorem dX3_truthAt_16 : decode cX3_truthAt 16 = .ok (.aload_n 0, 1) := by decide +kernel
theorem dX3_truthAt_17 : decode cX3_truthAt 17 = .ok (.getfield 9, 3) := by decide +kernel
theorem dX3_truthAt_20 : decode cX3_truthAt 20 = .ok (.getfield 35, 3) := by decide +kernel
theorem dX3_truthAt_23 : decode cX3_truthAt 23 = .ok (.iload_n 1, 1) := by decide +kernel
theorem dX3_truthAt_24 : decode cX3_truthAt 24 = .ok (.iconst 1, 1) := by decide +kernel
theorem dX3_truthAt_25 : decode cX3_truthAt 25 = .ok (.iadd, 1) := by decide +kernel
theorem dX3_truthAt_26 : decode cX3_truthAt 26 = .ok (.invokestatic 38, 3) := by decide +kernel
theorem dX3_truthAt_29 : decode cX3_truthAt 29 = .ok (.istore 4, 2) := by decide +kernel
theorem dX3_truthAt_31 : decode cX3_truthAt 31 = .ok (.aload_n 2, 1) := by decide +kernel
theorem dX3_truthAt_32 : decode cX3_truthAt 32 = .ok (.iload 4, 2) := by decide +kernel
theorem dX3_truthAt_34 : decode cX3_truthAt 34 = .ok (.bipush 97, 2) := by decide +kernel
theorem dX3_truthAt_36 : decode cX3_truthAt 36 = .ok (.isub, 1) := by decide +kernel
theorem dX3_truthAt_37 : decode cX3_truthAt 37 = .ok (.invokestatic 38, 3) := by decide +kernel
theorem dX3_truthAt_40 : decode cX3_truthAt 40 = .ok (.sipush 1000, 3) := by decide +kernel
theorem dX3_truthAt_43 : decode cX3_truthAt 43 = .ok (.if_icmp .ne 7, 3) := by decide +kernel
theorem dX3_truthAt_46 : decode cX3_truthAt 46 = .ok (.iconst 1, 1) := by decide +kernel
theorem dX3_truthAt_47 : decode cX3_truthAt 47 = .ok (.goto 4, 3) := by decide +kernel
theorem dX3_truthAt_50 : decode cX3_truthAt 50 = .ok (.iconst 0, 1) := by decide +kernel
theorem dX3_truthAt_51 : decode cX3_truthAt 51 = .ok (.ireturn, 1) := by decide +kernel
theorem dX3_truthAt_52 : decode cX3_truthAt 52 = .ok (.aload_n 0, 1) := by decide +kernel
theorem dX3_truthAt_53 : decode cX3_truthAt 53 = .ok (.getfield 15, 3) := by decide +kernel
theorem dX3_truthAt_56 : decode cX3_truthAt 56 = .ok (.iload_n 1, 1) := by decide +kernel
theorem dX3_truthAt_57 : decode cX3_truthAt 57 = .ok (.iconst 1, 1) := by decide +kernel
theorem dX3_truthAt_58 : decode cX3_truthAt 58 = .ok (.iadd, 1) := by decide +kernel
theorem dX3_truthAt_59 : decode cX3_truthAt 59 = .ok (.invokestatic 38, 3) := by decide +kernel
theorem dX3_truthAt_62 : decode cX3_truthAt 62 = .ok (.istore 4, 2) := by decide +kernel
theorem dX3_truthAt_64 : decode cX3_truthAt 64 = .ok (.iload_n 3, 1) := by decide +kernel
theorem dX3_truthAt_65 : decode cX3_truthAt 65 = .ok (.bipush 33, 2) := by decide +kernel
theorem dX3_truthAt_67 : decode cX3_truthAt 67 = .ok (.if_icmp .ne 9, 3) := by decide +kernel
theorem dX3_truthAt_70 : decode cX3_truthAt 70 = .ok (.iload 4, 2) := by decide +kernel
theorem dX3_truthAt_72 : decode cX3_truthAt 72 = .ok (.invokestatic 42, 3) := by decide +kernel
theorem dX3_truthAt_75 : decode cX3_truthAt 75 = .ok (.ireturn, 1) := by decide +kernel
theorem dX3_truthAt_76 : decode cX3_truthAt 76 = .ok (.aload_n 0, 1) := by decide +kernel
theorem dX3_truthAt_77 : decode cX3_truthAt 77 = .ok (.getfield 15, 3) := by decide +kernel
theorem dX3_truthAt_80 : decode cX3_truthAt 80 = .ok (.aload_n 0, 1) := by decide +kernel
theorem dX3_truthAt_81 : decode cX3_truthAt 81 = .ok (.getfield 9, 3) := by decide +kernel
theorem dX3_truthAt_84 : decode cX3_truthAt 84 = .ok (.getfield 46, 3) := by decide +kernel
theorem dX3_truthAt_87 : decode cX3_truthAt 87 = .ok (.iload_n 1, 1) := by decide +kernel
theorem dX3_truthAt_88 : decode cX3_truthAt 88 = .ok (.iaload, 1) := by decide +kernel
theorem dX3_truthAt_89 : decode cX3_truthAt 89 = .ok (.invokestatic 38, 3) := by decide +kernel
theorem dX3_truthAt_92 : decode cX3_truthAt 92 = .ok (.istore 5, 2) := by decide +kernel
theorem dX3_truthAt_94 : decode cX3_truthAt 94 = .ok (.iload_n 3, 1) := by decide +kernel
theorem dX3_truthAt_95 : decode cX3_truthAt 95 = .ok (.bipush 38, 2) := by decide +kernel
theorem dX3_truthAt_97 : decode cX3_truthAt 97 = .ok (.if_icmp .ne 11, 3) := by decide +kernel
theorem dX3_truthAt_100 : decode cX3_truthAt 100 = .ok (.iload 4, 2) := by decide +kernel
theorem dX3_truthAt_102 : decode cX3_truthAt 102 = .ok (.iload 5, 2) := by decide +kernel
theorem dX3_truthAt_104 : decode cX3_truthAt 104 = .ok (.invokestatic 49, 3) := by decide +kernel
theorem dX3_truthAt_107 : decode cX3_truthAt 107 = .ok (.ireturn, 1) := by decide +kernel
theorem dX3_truthAt_108 : decode cX3_truthAt 108 = .ok (.iload_n 3, 1) := by decide +kernel
theorem dX3_truthAt_109 : decode cX3_truthAt 109 = .ok (.bipush 124, 2) := by decide +kernel
theorem dX3_truthAt_111 : decode cX3_truthAt 111 = .ok (.if_icmp .ne 11, 3) := by decide +kernel
theorem dX3_truthAt_114 : decode cX3_truthAt 114 = .ok (.iload 4, 2) := by decide +kernel
theorem dX3_truthAt_116 : decode cX3_truthAt 116 = .ok (.iload 5, 2) := by decide +kernel
theorem dX3_truthAt_118 : decode cX3_truthAt 118 = .ok (.invokestatic 53, 3) := by decide +kernel
theorem dX3_truthAt_121 : decode cX3_truthAt 121 = .ok (.ireturn, 1) := by decide +kernel
theorem dX3_truthAt_122 : decode cX3_truthAt 122 = .ok (.iload 4, 2) := by decide +kernel
theorem dX3_truthAt_124 : decode cX3_truthAt 124 = .ok (.ldc 56, 2) := by decide +kernel
theorem dX3_truthAt_126 : decode cX3_truthAt 126 = .ok (.if_icmp .eq 10, 3) := by decide +kernel
theorem dX3_truthAt_129 : decode cX3_truthAt 129 = .ok (.iload 5, 2) := by decide +kernel
theorem dX3_truthAt_131 : decode cX3_truthAt 131 = .ok (.ldc 56, 2) := by decide +kernel
theorem dX3_truthAt_133 : decode cX3_truthAt 133 = .ok (.if_icmp .ne 5, 3) := by decide +kernel
theorem dX3_truthAt_136 : decode cX3_truthAt 136 = .ok (.iconst 2, 1) := by decide +kernel
theorem dX3_truthAt_137 : decode cX3_truthAt 137 = .ok (.ireturn, 1) := by decide +kernel
theorem dX3_truthAt_138 : decode cX3_truthAt 138 = .ok (.iload_n 3, 1) := by decide +kernel
theorem dX3_truthAt_139 : decode cX3_truthAt 139 = .ok (.bipush 60, 2) := by decide +kernel
theorem dX3_truthAt_141 : decode cX3_truthAt 141 = .ok (.if_icmp .ne 18, 3) := by decide +kernel
theorem dX3_truthAt_144 : decode cX3_truthAt 144 = .ok (.iload 4, 2) := by decide +kernel
theorem dX3_truthAt_146 : decode cX3_truthAt 146 = .ok (.iload 5, 2) := by decide +kernel
theorem dX3_truthAt_148 : decode cX3_truthAt 148 = .ok (.if_icmp .ge 7, 3) := by decide +kernel
theorem dX3_truthAt_151 : decode cX3_truthAt 151 = .ok (.iconst 1, 1) := by decide +kernel
theorem dX3_truthAt_152 : decode cX3_truthAt 152 = .ok (.goto 19, 3) := by decide +kernel
theorem dX3_truthAt_155 : decode cX3_truthAt 155 = .ok (.iconst 0, 1) := by decide +kernel
theorem dX3_truthAt_156 : decode cX3_truthAt 156 = .ok (.goto 15, 3) := by decide +kernel
theorem dX3_truthAt_159 : decode cX3_truthAt 159 = .ok (.iload 4, 2) := by decide +kernel
theorem dX3_truthAt_161 : decode cX3_truthAt 161 = .ok (.iload 5, 2) := by decide +kernel
theorem dX3_truthAt_163 : decode cX3_truthAt 163 = .ok (.if_icmp .ne 7, 3) := by decide +kernel
theorem dX3_truthAt_166 : decode cX3_truthAt 166 = .ok (.iconst 1, 1) := by decide +kernel
theorem dX3_truthAt_167 : decode cX3_truthAt 167 = .ok (.goto 4, 3) := by decide +kernel
theorem dX3_truthAt_170 : decode cX3_truthAt 170 = .ok (.iconst 0, 1) := by decide +kernel
theorem dX3_truthAt_171 : decode cX3_truthAt 171 = .ok (.istore 6, 2) := by decide +kernel
theorem dX3_truthAt_173 : decode cX3_truthAt 173 = .ok (.iload 6, 2) := by decide +kernel
theorem dX3_truthAt_175 : decode cX3_truthAt 175 = .ok (.ifCond .eq 7, 3) := by decide +kernel
theorem dX3_truthAt_178 : decode cX3_truthAt 178 = .ok (.iconst 1, 1) := by decide +kernel
theorem dX3_truthAt_179 : decode cX3_truthAt 179 = .ok (.goto 4, 3) := by decide +kernel
theorem dX3_truthAt_182 : decode cX3_truthAt 182 = .ok (.iconst 0, 1) := by decide +kernel
theorem dX3_truthAt_183 : decode cX3_truthAt 183 = .ok (.ireturn, 1) := by decide +kernel
theorem dX3_termAt_0 : decode cX3_termAt 0 = .ok (.aload_n 0, 1) := by decide +kernel
theorem dX3_termAt_1 : decode cX3_termAt 1 = .ok (.getfield 9, 3) := by decide +kernel
theorem dX3_termAt_4 : decode cX3_termAt 4 = .ok (.getfield 35, 3) := by decide +kernel
theorem dX3_termAt_7 : decode cX3_termAt 7 = .ok (.iload_n 1, 1) := by decide +kernel
theorem dX3_termAt_8 : decode cX3_termAt 8 = .ok (.iaload, 1) := by decide +kernel
theorem dX3_termAt_9 : decode cX3_termAt 9 = .ok (.istore_n 3, 1) := by decide +kernel
theorem dX3_termAt_10 : decode cX3_termAt 10 = .ok (.iload_n 3, 1) := by decide +kernel
theorem dX3_termAt_11 : decode cX3_termAt 11 = .ok (.invokestatic 57, 3) := by decide +kernel
theorem dX3_termAt_14 : decode cX3_termAt 14 = .ok (.ifCond .eq 29, 3) := by decide +kernel
theorem dX3_termAt_17 : decode cX3_termAt 17 = .ok (.aload_n 2, 1) := by decide +kernel
theorem dX3_termAt_18 : decode cX3_termAt 18 = .ok (.iload_n 3, 1) := by decide +kernel
theorem dX3_termAt_19 : decode cX3_termAt 19 = .ok (.bipush 97, 2) := by decide +kernel
theorem dX3_termAt_21 : decode cX3_termAt 21 = .ok (.isub, 1) := by decide +kernel
theorem dX3_termAt_22 : decode cX3_termAt 22 = .ok (.invokestatic 38, 3) := by decide +kernel
theorem dX3_termAt_25 : decode cX3_termAt 25 = .ok (.istore 4, 2) := by decide +kernel
theorem dX3_termAt_27 : decode cX3_termAt 27 = .ok (.iload 4, 2) := by decide +kernel
theorem dX3_termAt_29 : decode cX3_termAt 29 = .ok (.sipush 1000, 3) := by decide +kernel
theorem dX3_termAt_32 : decode cX3_termAt 32 = .ok (.if_icmp .ne 8, 3) := by decide +kernel
theorem dX3_termAt_35 : decode cX3_termAt 35 = .ok (.ldc 56, 2) := by decide +kernel
theorem dX3_termAt_37 : decode cX3_termAt 37 = .ok (.goto 5, 3) := by decide +kernel
theorem dX3_termAt_40 : decode cX3_termAt 40 = .ok (.iload 4, 2) := by decide +kernel
theorem dX3_termAt_42 : decode cX3_termAt 42 = .ok (.ireturn, 1) := by decide +kernel
theorem dX3_termAt_43 : decode cX3_termAt 43 = .ok (.iload_n 3, 1) := by decide +kernel
theorem dX3_termAt_44 : decode cX3_termAt 44 = .ok (.invokestatic 61, 3) := by decide +kernel
theorem dX3_termAt_47 : decode cX3_termAt 47 = .ok (.ifCond .ne 9, 3) := by decide +kernel
theorem dX3_termAt_50 : decode cX3_termAt 50 = .ok (.iload_n 3, 1) := by decide +kernel
theorem dX3_termAt_51 : decode cX3_termAt 51 = .ok (.bipush 35, 2) := by decide +kernel
theorem dX3_termAt_53 : decode cX3_termAt 53 = .ok (.if_icmp .ne 13, 3) := by decide +kernel
theorem dX3_termAt_56 : decode cX3_termAt 56 = .ok (.aload_n 0, 1) := by decide +kernel
theorem dX3_termAt_57 : decode cX3_termAt 57 = .ok (.getfield 9, 3) := by decide +kernel
theorem dX3_termAt_60 : decode cX3_termAt 60 = .ok (.getfield 64, 3) := by decide +kernel
theorem dX3_termAt_63 : decode cX3_termAt 63 = .ok (.iload_n 1, 1) := by decide +kernel
theorem dX3_termAt_64 : decode cX3_termAt 64 = .ok (.iaload, 1) := by decide +kernel
theorem dX3_termAt_65 : decode cX3_termAt 65 = .ok (.ireturn, 1) := by decide +kernel
theorem dX3_termAt_66 : decode cX3_termAt 66 = .ok (.aload_n 0, 1) := by decide +kernel
theorem dX3_termAt_67 : decode cX3_termAt 67 = .ok (.getfield 15, 3) := by decide +kernel
theorem dX3_termAt_70 : decode cX3_termAt 70 = .ok (.iload_n 1, 1) := by decide +kernel
theorem dX3_termAt_71 : decode cX3_termAt 71 = .ok (.iconst 1, 1) := by decide +kernel
theorem dX3_termAt_72 : decode cX3_termAt 72 = .ok (.iadd, 1) := by decide +kernel
theorem dX3_termAt_73 : decode cX3_termAt 73 = .ok (.invokestatic 38, 3) := by decide +kernel
theorem dX3_termAt_76 : decode cX3_termAt 76 = .ok (.istore 4, 2) := by decide +kernel
theorem dX3_termAt_78 : decode cX3_termAt 78 = .ok (.iload 4, 2) := by decide +kernel
theorem dX3_termAt_80 : decode cX3_termAt 80 = .ok (.ldc 56, 2) := by decide +kernel
theorem dX3_termAt_82 : decode cX3_termAt 82 = .ok (.if_icmp .ne 6, 3) := by decide +kernel
theorem dX3_termAt_85 : decode cX3_termAt 85 = .ok (.ldc 56, 2) := by decide +kernel
theorem dX3_termAt_87 : decode cX3_termAt 87 = .ok (.ireturn, 1) := by decide +kernel
theorem dX3_termAt_88 : decode cX3_termAt 88 = .ok (.iload_n 3, 1) := by decide +kernel
theorem dX3_termAt_89 : decode cX3_termAt 89 = .ok (.bipush 126, 2) := by decide +kernel
theorem dX3_termAt_91 : decode cX3_termAt 91 = .ok (.if_icmp .ne 7, 3) := by decide +kernel
theorem dX3_termAt_94 : decode cX3_termAt 94 = .ok (.iload 4, 2) := by decide +kernel
theorem dX3_termAt_96 : decode cX3_termAt 96 = .ok (.ineg, 1) := by decide +kernel
theorem dX3_termAt_97 : decode cX3_termAt 97 = .ok (.ireturn, 1) := by decide +kernel
theorem dX3_termAt_98 : decode cX3_termAt 98 = .ok (.iload_n 3, 1) := by decide +kernel
theorem dX3_termAt_99 : decode cX3_termAt 99 = .ok (.bipush 121, 2) := by decide +kernel
theorem dX3_termAt_101 : decode cX3_termAt 101 = .ok (.if_icmp .ne 7, 3) := by decide +kernel
theorem dX3_termAt_104 : decode cX3_termAt 104 = .ok (.iload 4, 2) := by decide +kernel
theorem dX3_termAt_106 : decode cX3_termAt 106 = .ok (.i2b, 1) := by decide +kernel
theorem dX3_termAt_107 : decode cX3_termAt 107 = .ok (.ireturn, 1) := by decide +kernel
theorem dX3_termAt_108 : decode cX3_termAt 108 = .ok (.iload_n 3, 1) := by decide +kernel
theorem dX3_termAt_109 : decode cX3_termAt 109 = .ok (.bipush 37, 2) := by decide +kernel
theorem dX3_termAt_111 : decode cX3_termAt 111 = .ok (.if_icmp .ne 30, 3) := by decide +kernel
theorem dX3_termAt_114 : decode cX3_termAt 114 = .ok (.aload_n 0, 1) := by decide +kernel
theorem dX3_termAt_115 : decode cX3_termAt 115 = .ok (.getfield 9, 3) := by decide +kernel
theorem dX3_termAt_118 : decode cX3_termAt 118 = .ok (.getfield 64, 3) := by decide +kernel
theorem dX3_termAt_121 : decode cX3_termAt 121 = .ok (.iload_n 1, 1) := by decide +kernel
theorem dX3_termAt_122 : decode cX3_termAt 122 = .ok (.iaload, 1) := by decide +kernel
theorem dX3_termAt_123 : decode cX3_termAt 123 = .ok (.istore 5, 2) := by decide +kernel
theorem dX3_termAt_125 : decode cX3_termAt 125 = .ok (.iload 5, 2) := by decide +kernel
theorem dX3_termAt_127 : decode cX3_termAt 127 = .ok (.iconst 1, 1) := by decide +kernel
theorem dX3_termAt_128 : decode cX3_termAt 128 = .ok (.if_icmp .ge 7, 3) := by decide +kernel
theorem dX3_termAt_131 : decode cX3_termAt 131 = .ok (.iconst 0, 1) := by decide +kernel
theorem dX3_termAt_132 : decode cX3_termAt 132 = .ok (.goto 8, 3) := by decide +kernel
theorem dX3_termAt_135 : decode cX3_termAt 135 = .ok (.iload 4, 2) := by decide +kernel
theorem dX3_termAt_137 : decode cX3_termAt 137 = .ok (.iload 5, 2) := by decide +kernel
theorem dX3_termAt_139 : decode cX3_termAt 139 = .ok (.irem, 1) := by decide +kernel
theorem dX3_termAt_140 : decode cX3_termAt 140 = .ok (.ireturn, 1) := by decide +kernel
theorem dX3_termAt_141 : decode cX3_termAt 141 = .ok (.aload_n 0, 1) := by decide +kernel
theorem dX3_termAt_142 : decode cX3_termAt 142 = .ok (.getfield 15, 3) := by decide +kernel
theorem dX3_termAt_145 : decode cX3_termAt 145 = .ok (.aload_n 0, 1) := by decide +kernel
theorem dX3_termAt_146 : decode cX3_termAt 146 = .ok (.getfield 9, 3) := by decide +kernel
theorem dX3_termAt_149 : decode cX3_termAt 149 = .ok (.getfield 46, 3) := by decide +kernel
theorem dX3_termAt_152 : decode cX3_termAt 152 = .ok (.iload_n 1, 1) := by decide +kernel
theorem dX3_termAt_153 : decode cX3_termAt 153 = .ok (.iaload, 1) := by decide +kernel
theorem dX3_termAt_154 : decode cX3_termAt 154 = .ok (.invokestatic 38, 3) := by decide +kernel
theorem dX3_termAt_157 : decode cX3_termAt 157 = .ok (.istore 5, 2) := by decide +kernel
theorem dX3_termAt_159 : decode cX3_termAt 159 = .ok (.iload 5, 2) := by decide +kernel
theorem dX3_termAt_161 : decode cX3_termAt 161 = .ok (.ldc 56, 2) := by decide +kernel
theorem dX3_termAt_163 : decode cX3_termAt 163 = .ok (.if_icmp .ne 8, 3) := by decide +kernel
theorem dX3_termAt_166 : decode cX3_termAt 166 = .ok (.ldc 56, 2) := by decide +kernel
theorem dX3_termAt_168 : decode cX3_termAt 168 = .ok (.goto 11, 3) := by decide +kernel
theorem dX3_termAt_171 : decode cX3_termAt 171 = .ok (.iload_n 3, 1) := by decide +kernel
theorem dX3_termAt_172 : decode cX3_termAt 172 = .ok (.iload 4, 2) := by decide +kernel
theorem dX3_termAt_174 : decode cX3_termAt 174 = .ok (.iload 5, 2) := by decide +kernel
theorem dX3_termAt_176 : decode cX3_termAt 176 = .ok (.invokestatic 67, 3) := by decide +kernel
theorem dX3_termAt_179 : decode cX3_termAt 179 = .ok (.ireturn, 1) := by decide +kernel
theorem dX4_init_0 : decode cX4_init 0 = .ok (.aload_n 0, 1) := by decide +kernel
theorem dX4_init_1 : decode cX4_init 1 = .ok (.invokespecial 3, 3) := by decide +kernel
theorem dX4_init_4 : decode cX4_init 4 = .ok (.aload_n 0, 1) := by decide +kernel
theorem dX4_init_5 : decode cX4_init 5 = .ok (.bipush 48, 2) := by decide +kernel
theorem dX4_init_7 : decode cX4_init 7 = .ok (.newarray .long, 2) := by decide +kernel
theorem dX4_init_9 : decode cX4_init 9 = .ok (.putfield 9, 3) := by decide +kernel
theorem dX4_init_12 : decode cX4_init 12 = .ok (.return_, 1) := by decide +kernel
theorem dX4_clear_0 : decode cX4_clear 0 = .ok (.aload_n 0, 1) := by decide +kernel
theorem dX4_clear_1 : decode cX4_clear 1 = .ok (.iconst 0, 1) := by decide +kernel
theorem dX4_clear_2 : decode cX4_clear 2 = .ok (.putfield 15, 3) := by decide +kernel
theorem dX4_clear_5 : decode cX4_clear 5 = .ok (.return_, 1) := by decide +kernel
theorem dX4_note_0 : decode cX4_note 0 = .ok (.lconst 0, 1) := by decide +kernel
theorem dX4_note_1 : decode cX4_note 1 = .ok (.lstore_n 2, 1) := by decide +kernel
theorem dX4_note_2 : decode cX4_note 2 = .ok (.iconst 0, 1) := by decide +kernel
theorem dX4_note_3 : decode cX4_note 3 = .ok (.istore 4, 2) := by decide +kernel
theorem dX4_note_5 : decode cX4_note 5 = .ok (.iload 4, 2) := by decide +kernel
theorem dX4_note_7 : decode cX4_note 7 = .ok (.iconst 4, 1) := by decide +kernel
theorem dX4_note_8 : decode cX4_note 8 = .ok (.if_icmp .ge 27, 3) := by decide +kernel
theorem dX4_note_11 : decode cX4_note 11 = .ok (.lload_n 2, 1) := by decide +kernel
theorem dX4_note_12 : decode cX4_note 12 = .ok (.ldc2_w 19, 3) := by decide +kernel
theorem dX4_note_15 : decode cX4_note 15 = .ok (.lmul, 1) := by decide +kernel
theorem dX4_note_16 : decode cX4_note 16 = .ok (.aload_n 1, 1) := by decide +kernel
theorem dX4_note_17 : decode cX4_note 17 = .ok (.iload 4, 2) := by decide +kernel
theorem dX4_note_19 : decode cX4_note 19 = .ok (.invokestatic 21, 3) := by decide +kernel
theorem dX4_note_22 : decode cX4_note 22 = .ok (.sipush (-999), 3) := by decide +kernel
theorem dX4_note_25 : decode cX4_note 25 = .ok (.isub, 1) := by decide +kernel
theorem dX4_note_26 : decode cX4_note 26 = .ok (.i2l, 1) := by decide +kernel
theorem dX4_note_27 : decode cX4_note 27 = .ok (.ladd, 1) := by decide +kernel
theorem dX4_note_28 : decode cX4_note 28 = .ok (.lstore_n 2, 1) := by decide +kernel
theorem dX4_note_29 : decode cX4_note 29 = .ok (.iinc 4 1, 3) := by decide +kernel
theorem dX4_note_32 : decode cX4_note 32 = .ok (.goto (-27), 3) := by decide +kernel
theorem dX4_note_35 : decode cX4_note 35 = .ok (.iconst 0, 1) := by decide +kernel
theorem dX4_note_36 : decode cX4_note 36 = .ok (.istore 4, 2) := by decide +kernel
theorem dX4_note_38 : decode cX4_note 38 = .ok (.iload 4, 2) := by decide +kernel
theorem dX4_note_40 : decode cX4_note 40 = .ok (.aload_n 0, 1) := by decide +kernel
theorem dX4_note_41 : decode cX4_note 41 = .ok (.getfield 15, 3) := by decide +kernel
theorem dX4_note_44 : decode cX4_note 44 = .ok (.if_icmp .ge 22, 3) := by decide +kernel
theorem dX4_note_47 : decode cX4_note 47 = .ok (.aload_n 0, 1) := by decide +kernel
theorem dX4_note_48 : decode cX4_note 48 = .ok (.getfield 9, 3) := by decide +kernel
theorem dX4_note_51 : decode cX4_note 51 = .ok (.iload 4, 2) := by decide +kernel
theorem dX4_note_53 : decode cX4_note 53 = .ok (.laload, 1) := by decide +kernel
theorem dX4_note_54 : decode cX4_note 54 = .ok (.lload_n 2, 1) := by decide +kernel
theorem dX4_note_55 : decode cX4_note 55 = .ok (.lcmp, 1) := by decide +kernel
theorem dX4_note_56 : decode cX4_note 56 = .ok (.ifCond .ne 4, 3) := by decide +kernel
theorem dX4_note_59 : decode cX4_note 59 = .ok (.return_, 1) := by decide +kernel
theorem dX4_note_60 : decode cX4_note 60 = .ok (.iinc 4 1, 3) := by decide +kernel
theorem dX4_note_63 : decode cX4_note 63 = .ok (.goto (-25), 3) := by decide +kernel
theorem dX4_note_66 : decode cX4_note 66 = .ok (.aload_n 0, 1) := by decide +kernel
theorem dX4_note_67 : decode cX4_note 67 = .ok (.getfield 15, 3) := by decide +kernel
theorem dX4_note_70 : decode cX4_note 70 = .ok (.aload_n 0, 1) := by decide +kernel
theorem dX4_note_71 : decode cX4_note 71 = .ok (.getfield 9, 3) := by decide +kernel
theorem dX4_note_74 : decode cX4_note 74 = .ok (.arraylength, 1) := by decide +kernel
theorem dX4_note_75 : decode cX4_note 75 = .ok (.if_icmp .ge 23, 3) := by decide +kernel
theorem dX4_note_78 : decode cX4_note 78 = .ok (.aload_n 0, 1) := by decide +kernel
theorem dX4_note_79 : decode cX4_note 79 = .ok (.getfield 9, 3) := by decide +kernel
theorem dX4_note_82 : decode cX4_note 82 = .ok (.aload_n 0, 1) := by decide +kernel
theorem dX4_note_83 : decode cX4_note 83 = .ok (.getfield 15, 3) := by decide +kernel
theorem dX4_note_86 : decode cX4_note 86 = .ok (.lload_n 2, 1) := by decide +kernel
theorem dX4_note_87 : decode cX4_note 87 = .ok (.lastore, 1) := by decide +kernel
theorem dX4_note_88 : decode cX4_note 88 = .ok (.aload_n 0, 1) := by decide +kernel
theorem dX4_note_89 : decode cX4_note 89 = .ok (.dup, 1) := by decide +kernel
theorem dX4_note_90 : decode cX4_note 90 = .ok (.getfield 15, 3) := by decide +kernel
theorem dX4_note_93 : decode cX4_note 93 = .ok (.iconst 1, 1) := by decide +kernel
theorem dX4_note_94 : decode cX4_note 94 = .ok (.iadd, 1) := by decide +kernel
theorem dX4_note_95 : decode cX4_note 95 = .ok (.putfield 15, 3) := by decide +kernel
theorem dX4_note_98 : decode cX4_note 98 = .ok (.return_, 1) := by decide +kernel
theorem dX5_init_0 : decode cX5_init 0 = .ok (.aload_n 0, 1) := by decide +kernel
theorem dX5_init_1 : decode cX5_init 1 = .ok (.invokespecial 3, 3) := by decide +kernel
theorem dX5_init_4 : decode cX5_init 4 = .ok (.aload_n 0, 1) := by decide +kernel
theorem dX5_init_5 : decode cX5_init 5 = .ok (.bipush 6, 2) := by decide +kernel
theorem dX5_init_7 : decode cX5_init 7 = .ok (.anewarray 9, 3) := by decide +kernel
theorem dX5_init_10 : decode cX5_init 10 = .ok (.putfield 11, 3) := by decide +kernel
theorem dX5_init_13 : decode cX5_init 13 = .ok (.iconst 0, 1) := by decide +kernel
theorem dX5_init_14 : decode cX5_init 14 = .ok (.istore_n 1, 1) := by decide +kernel
theorem dX5_init_15 : decode cX5_init 15 = .ok (.iload_n 1, 1) := by decide +kernel
theorem dX5_init_16 : decode cX5_init 16 = .ok (.bipush 6, 2) := by decide +kernel
theorem dX5_init_18 : decode cX5_init 18 = .ok (.if_icmp .ge 22, 3) := by decide +kernel
theorem dX5_init_21 : decode cX5_init 21 = .ok (.aload_n 0, 1) := by decide +kernel
theorem dX5_init_22 : decode cX5_init 22 = .ok (.getfield 11, 3) := by decide +kernel
theorem dX5_init_25 : decode cX5_init 25 = .ok (.iload_n 1, 1) := by decide +kernel
theorem dX5_init_26 : decode cX5_init 26 = .ok (.new 9, 3) := by decide +kernel
theorem dX5_init_29 : decode cX5_init 29 = .ok (.dup, 1) := by decide +kernel
theorem dX5_init_30 : decode cX5_init 30 = .ok (.invokespecial 17, 3) := by decide +kernel
theorem dX5_init_33 : decode cX5_init 33 = .ok (.aastore, 1) := by decide +kernel
theorem dX5_init_34 : decode cX5_init 34 = .ok (.iinc 1 1, 3) := by decide +kernel
theorem dX5_init_37 : decode cX5_init 37 = .ok (.goto (-22), 3) := by decide +kernel
theorem dX5_init_40 : decode cX5_init 40 = .ok (.return_, 1) := by decide +kernel
theorem dX5_countRows_0 : decode cX5_countRows 0 = .ok (.iconst 0, 1) := by decide +kernel
theorem dX5_countRows_1 : decode cX5_countRows 1 = .ok (.istore_n 1, 1) := by decide +kernel
theorem dX5_countRows_2 : decode cX5_countRows 2 = .ok (.iconst 0, 1) := by decide +kernel
theorem dX5_countRows_3 : decode cX5_countRows 3 = .ok (.istore_n 2, 1) := by decide +kernel
theorem dX5_countRows_4 : decode cX5_countRows 4 = .ok (.iload_n 2, 1) := by decide +kernel
theorem dX5_countRows_5 : decode cX5_countRows 5 = .ok (.bipush 6, 2) := by decide +kernel
theorem dX5_countRows_7 : decode cX5_countRows 7 = .ok (.if_icmp .ge 21, 3) := by decide +kernel
theorem dX5_countRows_10 : decode cX5_countRows 10 = .ok (.iload_n 1, 1) := by decide +kernel
theorem dX5_countRows_11 : decode cX5_countRows 11 = .ok (.aload_n 0, 1) := by decide +kernel
theorem dX5_countRows_12 : decode cX5_countRows 12 = .ok (.getfield 11, 3) := by decide +kernel
theorem dX5_countRows_15 : decode cX5_countRows 15 = .ok (.iload_n 2, 1) := by decide +kernel
theorem dX5_countRows_16 : decode cX5_countRows 16 = .ok (.aaload, 1) := by decide +kernel
theorem dX5_countRows_17 : decode cX5_countRows 17 = .ok (.getfield 18, 3) := by decide +kernel
theorem dX5_countRows_20 : decode cX5_countRows 20 = .ok (.iadd, 1) := by decide +kernel
theorem dX5_countRows_21 : decode cX5_countRows 21 = .ok (.istore_n 1, 1) := by decide +kernel
theorem dX5_countRows_22 : decode cX5_countRows 22 = .ok (.iinc 2 1, 3) := by decide +kernel
theorem dX5_countRows_25 : decode cX5_countRows 25 = .ok (.goto (-21), 3) := by decide +kernel
theorem dX5_countRows_28 : decode cX5_countRows 28 = .ok (.iload_n 1, 1) := by decide +kernel
theorem dX5_countRows_29 : decode cX5_countRows 29 = .ok (.ireturn, 1) := by decide +kernel
theorem dX5_copyFrom_0 : decode cX5_copyFrom 0 = .ok (.iconst 0, 1) := by decide +kernel
theorem dX5_copyFrom_1 : decode cX5_copyFrom 1 = .ok (.istore_n 2, 1) := by decide +kernel
theorem dX5_copyFrom_2 : decode cX5_copyFrom 2 = .ok (.iload_n 2, 1) := by decide +kernel
theorem dX5_copyFrom_3 : decode cX5_copyFrom 3 = .ok (.bipush 6, 2) := by decide +kernel
theorem dX5_copyFrom_5 : decode cX5_copyFrom 5 = .ok (.if_icmp .ge 24, 3) := by decide +kernel
theorem dX5_copyFrom_8 : decode cX5_copyFrom 8 = .ok (.aload_n 0, 1) := by decide +kernel
theorem dX5_copyFrom_9 : decode cX5_copyFrom 9 = .ok (.getfield 11, 3) := by decide +kernel
theorem dX5_copyFrom_12 : decode cX5_copyFrom 12 = .ok (.iload_n 2, 1) := by decide +kernel
theorem dX5_copyFrom_13 : decode cX5_copyFrom 13 = .ok (.aaload, 1) := by decide +kernel
theorem dX5_copyFrom_14 : decode cX5_copyFrom 14 = .ok (.aload_n 1, 1) := by decide +kernel
theorem dX5_copyFrom_15 : decode cX5_copyFrom 15 = .ok (.getfield 11, 3) := by decide +kernel
theorem dX5_copyFrom_18 : decode cX5_copyFrom 18 = .ok (.iload_n 2, 1) := by decide +kernel
theorem dX5_copyFrom_19 : decode cX5_copyFrom 19 = .ok (.aaload, 1) := by decide +kernel
theorem dX5_copyFrom_20 : decode cX5_copyFrom 20 = .ok (.invokevirtual 22, 3) := by decide +kernel
theorem dX5_copyFrom_23 : decode cX5_copyFrom 23 = .ok (.iinc 2 1, 3) := by decide +kernel
theorem dX5_copyFrom_26 : decode cX5_copyFrom 26 = .ok (.goto (-24), 3) := by decide +kernel
theorem dX5_copyFrom_29 : decode cX5_copyFrom 29 = .ok (.return_, 1) := by decide +kernel
theorem dX6_init_0 : decode cX6_init 0 = .ok (.aload_n 0, 1) := by decide +kernel
theorem dX6_init_1 : decode cX6_init 1 = .ok (.invokespecial 3, 3) := by decide +kernel
theorem dX6_init_4 : decode cX6_init 4 = .ok (.aload_n 0, 1) := by decide +kernel
theorem dX6_init_5 : decode cX6_init 5 = .ok (.iconst 4, 1) := by decide +kernel
theorem dX6_init_6 : decode cX6_init 6 = .ok (.newarray .int, 2) := by decide +kernel
theorem dX6_init_8 : decode cX6_init 8 = .ok (.putfield 9, 3) := by decide +kernel
theorem dX6_init_11 : decode cX6_init 11 = .ok (.aload_n 0, 1) := by decide +kernel
theorem dX6_init_12 : decode cX6_init 12 = .ok (.iconst 4, 1) := by decide +kernel
theorem dX6_init_13 : decode cX6_init 13 = .ok (.newarray .int, 2) := by decide +kernel
theorem dX6_init_15 : decode cX6_init 15 = .ok (.putfield 15, 3) := by decide +kernel
theorem dX6_init_18 : decode cX6_init 18 = .ok (.aload_n 0, 1) := by decide +kernel
theorem dX6_init_19 : decode cX6_init 19 = .ok (.invokevirtual 18, 3) := by decide +kernel
theorem dX6_init_22 : decode cX6_init 22 = .ok (.return_, 1) := by decide +kernel
theorem dX6_clear_0 : decode cX6_clear 0 = .ok (.aload_n 0, 1) := by decide +kernel
theorem dX6_clear_1 : decode cX6_clear 1 = .ok (.ldc 21, 2) := by decide +kernel
theorem dX6_clear_3 : decode cX6_clear 3 = .ok (.putfield 22, 3) := by decide +kernel
theorem dX6_clear_6 : decode cX6_clear 6 = .ok (.aload_n 0, 1) := by decide +kernel
theorem dX6_clear_7 : decode cX6_clear 7 = .ok (.ldc 21, 2) := by decide +kernel
theorem dX6_clear_9 : decode cX6_clear 9 = .ok (.putfield 26, 3) := by decide +kernel
theorem dX6_clear_12 : decode cX6_clear 12 = .ok (.aload_n 0, 1) := by decide +kernel
theorem dX6_clear_13 : decode cX6_clear 13 = .ok (.iconst 0, 1) := by decide +kernel
theorem dX6_clear_14 : decode cX6_clear 14 = .ok (.putfield 29, 3) := by decide +kernel
theorem dX6_clear_17 : decode cX6_clear 17 = .ok (.aload_n 0, 1) := by decide +kernel
theorem dX6_clear_18 : decode cX6_clear 18 = .ok (.iconst 0, 1) := by decide +kernel
theorem dX6_clear_19 : decode cX6_clear 19 = .ok (.putfield 32, 3) := by decide +kernel
theorem dX6_clear_22 : decode cX6_clear 22 = .ok (.aload_n 0, 1) := by decide +kernel
theorem dX6_clear_23 : decode cX6_clear 23 = .ok (.iconst 0, 1) := by decide +kernel
theorem dX6_clear_24 : decode cX6_clear 24 = .ok (.putfield 35, 3) := by decide +kernel
theorem dX6_clear_27 : decode cX6_clear 27 = .ok (.return_, 1) := by decide +kernel
theorem dX6_come_0 : decode cX6_come 0 = .ok (.iload_n 1, 1) := by decide +kernel
theorem dX6_come_1 : decode cX6_come 1 = .ok (.sipush 1000, 3) := by decide +kernel
theorem dX6_come_4 : decode cX6_come 4 = .ok (.if_icmp .ne 14, 3) := by decide +kernel
theorem dX6_come_7 : decode cX6_come 7 = .ok (.aload_n 0, 1) := by decide +kernel
theorem dX6_come_8 : decode cX6_come 8 = .ok (.dup, 1) := by decide +kernel
theorem dX6_come_9 : decode cX6_come 9 = .ok (.getfield 29, 3) := by decide +kernel
theorem dX6_come_12 : decode cX6_come 12 = .ok (.iconst 1, 1) := by decide +kernel
theorem dX6_come_13 : decode cX6_come 13 = .ok (.iadd, 1) := by decide +kernel
theorem dX6_come_14 : decode cX6_come 14 = .ok (.putfield 29, 3) := by decide +kernel
theorem dX6_come_17 : decode cX6_come 17 = .ok (.return_, 1) := by decide +kernel
theorem dX6_come_18 : decode cX6_come 18 = .ok (.aload_n 0, 1) := by decide +kernel
theorem dX6_come_19 : decode cX6_come 19 = .ok (.aload_n 0, 1) := by decide +kernel
theorem dX6_come_20 : decode cX6_come 20 = .ok (.getfield 22, 3) := by decide +kernel
theorem dX6_come_23 : decode cX6_come 23 = .ok (.ldc 21, 2) := by decide +kernel
theorem dX6_come_25 : decode cX6_come 25 = .ok (.if_icmp .ne 7, 3) := by decide +kernel
theorem dX6_come_28 : decode cX6_come 28 = .ok (.iload_n 1, 1) := by decide +kernel
theorem dX6_come_29 : decode cX6_come 29 = .ok (.goto 11, 3) := by decide +kernel
theorem dX6_come_32 : decode cX6_come 32 = .ok (.aload_n 0, 1) := by decide +kernel
theorem dX6_come_33 : decode cX6_come 33 = .ok (.getfield 22, 3) := by decide +kernel
theorem dX6_come_36 : decode cX6_come 36 = .ok (.iload_n 1, 1) := by decide +kernel
theorem dX6_come_37 : decode cX6_come 37 = .ok (.invokestatic 39, 3) := by decide +kernel
theorem dX6_come_40 : decode cX6_come 40 = .ok (.putfield 22, 3) := by decide +kernel
theorem dX6_come_43 : decode cX6_come 43 = .ok (.aload_n 0, 1) := by decide +kernel
theorem dX6_come_44 : decode cX6_come 44 = .ok (.aload_n 0, 1) := by decide +kernel
theorem dX6_come_45 : decode cX6_come 45 = .ok (.getfield 26, 3) := by decide +kernel
theorem dX6_come_48 : decode cX6_come 48 = .ok (.ldc 21, 2) := by decide +kernel
theorem dX6_come_50 : decode cX6_come 50 = .ok (.if_icmp .ne 7, 3) := by decide +kernel
theorem dX6_come_53 : decode cX6_come 53 = .ok (.iload_n 1, 1) := by decide +kernel
theorem dX6_come_54 : decode cX6_come 54 = .ok (.goto 11, 3) := by decide +kernel
theorem dX6_come_57 : decode cX6_come 57 = .ok (.aload_n 0, 1) := by decide +kernel
theorem dX6_come_58 : decode cX6_come 58 = .ok (.getfield 26, 3) := by decide +kernel
theorem dX6_come_61 : decode cX6_come 61 = .ok (.iload_n 1, 1) := by decide +kernel
theorem dX6_come_62 : decode cX6_come 62 = .ok (.invokestatic 45, 3) := by decide +kernel
theorem dX6_come_65 : decode cX6_come 65 = .ok (.putfield 26, 3) := by decide +kernel
theorem dX6_come_68 : decode cX6_come 68 = .ok (.aload_n 0, 1) := by decide +kernel
theorem dX6_come_69 : decode cX6_come 69 = .ok (.getfield 35, 3) := by decide +kernel
theorem dX6_come_72 : decode cX6_come 72 = .ok (.ifCond .ne 8, 3) := by decide +kernel
theorem dX6_come_75 : decode cX6_come 75 = .ok (.aload_n 0, 1) := by decide +kernel
theorem dX6_come_76 : decode cX6_come 76 = .ok (.iload_n 1, 1) := by decide +kernel
theorem dX6_come_77 : decode cX6_come 77 = .ok (.invokevirtual 48, 3) := by decide +kernel
theorem dX6_come_80 : decode cX6_come 80 = .ok (.return_, 1) := by decide +kernel
theorem dX6_enlist_0 : decode cX6_enlist 0 = .ok (.aload_n 0, 1) := by decide +kernel
theorem dX6_enlist_1 : decode cX6_enlist 1 = .ok (.iload_n 1, 1) := by decide +kernel
theorem dX6_enlist_2 : decode cX6_enlist 2 = .ok (.invokevirtual 52, 3) := by decide +kernel
theorem dX6_enlist_5 : decode cX6_enlist 5 = .ok (.istore_n 2, 1) := by decide +kernel
theorem dX6_enlist_6 : decode cX6_enlist 6 = .ok (.iload_n 2, 1) := by decide +kernel
theorem dX6_enlist_7 : decode cX6_enlist 7 = .ok (.ldc 21, 2) := by decide +kernel
theorem dX6_enlist_9 : decode cX6_enlist 9 = .ok (.if_icmp .eq 16, 3) := by decide +kernel
theorem dX6_enlist_12 : decode cX6_enlist 12 = .ok (.aload_n 0, 1) := by decide +kernel
theorem dX6_enlist_13 : decode cX6_enlist 13 = .ok (.getfield 15, 3) := by decide +kernel
theorem dX6_enlist_16 : decode cX6_enlist 16 = .ok (.iload_n 2, 1) := by decide +kernel
theorem dX6_enlist_17 : decode cX6_enlist 17 = .ok (.dup2, 1) := by decide +kernel
theorem dX6_enlist_18 : decode cX6_enlist 18 = .ok (.iaload, 1) := by decide +kernel
theorem dX6_enlist_19 : decode cX6_enlist 19 = .ok (.iconst 1, 1) := by decide +kernel
theorem dX6_enlist_20 : decode cX6_enlist 20 = .ok (.iadd, 1) := by decide +kernel
theorem dX6_enlist_21 : decode cX6_enlist 21 = .ok (.iastore, 1) := by decide +kernel
theorem dX6_enlist_22 : decode cX6_enlist 22 = .ok (.goto 54, 3) := by decide +kernel
theorem dX6_enlist_25 : decode cX6_enlist 25 = .ok (.aload_n 0, 1) := by decide +kernel
theorem dX6_enlist_26 : decode cX6_enlist 26 = .ok (.getfield 32, 3) := by decide +kernel
theorem dX6_enlist_29 : decode cX6_enlist 29 = .ok (.iconst 4, 1) := by decide +kernel
theorem dX6_enlist_30 : decode cX6_enlist 30 = .ok (.if_icmp .ge 36, 3) := by decide +kernel
theorem dX6_enlist_33 : decode cX6_enlist 33 = .ok (.aload_n 0, 1) := by decide +kernel
theorem dX6_enlist_34 : decode cX6_enlist 34 = .ok (.getfield 9, 3) := by decide +kernel
theorem dX6_enlist_37 : decode cX6_enlist 37 = .ok (.aload_n 0, 1) := by decide +kernel
theorem dX6_enlist_38 : decode cX6_enlist 38 = .ok (.getfield 32, 3) := by decide +kernel
theorem dX6_enlist_41 : decode cX6_enlist 41 = .ok (.iload_n 1, 1) := by decide +kernel
theorem dX6_enlist_42 : decode cX6_enlist 42 = .ok (.iastore, 1) := by decide +kernel
theorem dX6_enlist_43 : decode cX6_enlist 43 = .ok (.aload_n 0, 1) := by decide +kernel
theorem dX6_enlist_44 : decode cX6_enlist 44 = .ok (.getfield 15, 3) := by decide +kernel
theorem dX6_enlist_47 : decode cX6_enlist 47 = .ok (.aload_n 0, 1) := by decide +kernel
theorem dX6_enlist_48 : decode cX6_enlist 48 = .ok (.getfield 32, 3) := by decide +kernel
theorem dX6_enlist_51 : decode cX6_enlist 51 = .ok (.iconst 1, 1) := by decide +kernel
theorem dX6_enlist_52 : decode cX6_enlist 52 = .ok (.iastore, 1) := by decide +kernel
theorem dX6_enlist_53 : decode cX6_enlist 53 = .ok (.aload_n 0, 1) := by decide +kernel
theorem dX6_enlist_54 : decode cX6_enlist 54 = .ok (.dup, 1) := by decide +kernel
theorem dX6_enlist_55 : decode cX6_enlist 55 = .ok (.getfield 32, 3) := by decide +kernel
theorem dX6_enlist_58 : decode cX6_enlist 58 = .ok (.iconst 1, 1) := by decide +kernel
theorem dX6_enlist_59 : decode cX6_enlist 59 = .ok (.iadd, 1) := by decide +kernel
theorem dX6_enlist_60 : decode cX6_enlist 60 = .ok (.putfield 32, 3) := by decide +kernel
theorem dX6_enlist_63 : decode cX6_enlist 63 = .ok (.goto 13, 3) := by decide +kernel
theorem dX6_enlist_66 : decode cX6_enlist 66 = .ok (.aload_n 0, 1) := by decide +kernel
theorem dX6_enlist_67 : decode cX6_enlist 67 = .ok (.iconst 1, 1) := by decide +kernel
theorem dX6_enlist_68 : decode cX6_enlist 68 = .ok (.putfield 35, 3) := by decide +kernel
theorem dX6_enlist_71 : decode cX6_enlist 71 = .ok (.aload_n 0, 1) := by decide +kernel
theorem dX6_enlist_72 : decode cX6_enlist 72 = .ok (.iconst 0, 1) := by decide +kernel
theorem dX6_enlist_73 : decode cX6_enlist 73 = .ok (.putfield 32, 3) := by decide +kernel
theorem dX6_enlist_76 : decode cX6_enlist 76 = .ok (.return_, 1) := by decide +kernel
theorem dX6_leave_0 : decode cX6_leave 0 = .ok (.iload_n 1, 1) := by decide +kernel
theorem dX6_leave_1 : decode cX6_leave 1 = .ok (.sipush 1000, 3) := by decide +kernel
theorem dX6_leave_4 : decode cX6_leave 4 = .ok (.if_icmp .ne 14, 3) := by decide +kernel
theorem dX6_leave_7 : decode cX6_leave 7 = .ok (.aload_n 0, 1) := by decide +kernel
theorem dX6_leave_8 : decode cX6_leave 8 = .ok (.dup, 1) := by decide +kernel
theorem dX6_leave_9 : decode cX6_leave 9 = .ok (.getfield 29, 3) := by decide +kernel
theorem dX6_leave_12 : decode cX6_leave 12 = .ok (.iconst 1, 1) := by decide +kernel
theorem dX6_leave_13 : decode cX6_leave 13 = .ok (.isub, 1) := by decide +kernel
theorem dX6_leave_14 : decode cX6_leave 14 = .ok (.putfield 29, 3) := by decide +kernel
theorem dX6_leave_17 : decode cX6_leave 17 = .ok (.return_, 1) := by decide +kernel
theorem dX6_leave_18 : decode cX6_leave 18 = .ok (.aload_n 0, 1) := by decide +kernel
theorem dX6_leave_19 : decode cX6_leave 19 = .ok (.iload_n 1, 1) := by decide +kernel
theorem dX6_leave_20 : decode cX6_leave 20 = .ok (.invokevirtual 52, 3) := by decide +kernel
theorem dX6_leave_23 : decode cX6_leave 23 = .ok (.istore_n 2, 1) := by decide +kernel
theorem dX6_leave_24 : decode cX6_leave 24 = .ok (.iload_n 2, 1) := by decide +kernel
theorem dX6_leave_25 : decode cX6_leave 25 = .ok (.ldc 21, 2) := by decide +kernel
theorem dX6_leave_27 : decode cX6_leave 27 = .ok (.if_icmp .eq 13, 3) := by decide +kernel
theorem dX6_leave_30 : decode cX6_leave 30 = .ok (.aload_n 0, 1) := by decide +kernel
theorem dX6_leave_31 : decode cX6_leave 31 = .ok (.getfield 15, 3) := by decide +kernel
theorem dX6_leave_34 : decode cX6_leave 34 = .ok (.iload_n 2, 1) := by decide +kernel
theorem dX6_leave_35 : decode cX6_leave 35 = .ok (.dup2, 1) := by decide +kernel
theorem dX6_leave_36 : decode cX6_leave 36 = .ok (.iaload, 1) := by decide +kernel
theorem dX6_leave_37 : decode cX6_leave 37 = .ok (.iconst 1, 1) := by decide +kernel
theorem dX6_leave_38 : decode cX6_leave 38 = .ok (.isub, 1) := by decide +kernel
theorem dX6_leave_39 : decode cX6_leave 39 = .ok (.iastore, 1) := by decide +kernel
theorem dX6_leave_40 : decode cX6_leave 40 = .ok (.return_, 1) := by decide +kernel
theorem dX6_placeOf_0 : decode cX6_placeOf 0 = .ok (.iconst 0, 1) := by decide +kernel
theorem dX6_placeOf_1 : decode cX6_placeOf 1 = .ok (.istore_n 2, 1) := by decide +kernel
theorem dX6_placeOf_2 : decode cX6_placeOf 2 = .ok (.iload_n 2, 1) := by decide +kernel
theorem dX6_placeOf_3 : decode cX6_placeOf 3 = .ok (.aload_n 0, 1) := by decide +kernel
theorem dX6_placeOf_4 : decode cX6_placeOf 4 = .ok (.getfield 32, 3) := by decide +kernel
theorem dX6_placeOf_7 : decode cX6_placeOf 7 = .ok (.if_icmp .ge 21, 3) := by decide +kernel
theorem dX6_placeOf_10 : decode cX6_placeOf 10 = .ok (.aload_n 0, 1) := by decide +kernel
theorem dX6_placeOf_11 : decode cX6_placeOf 11 = .ok (.getfield 9, 3) := by decide +kernel
theorem dX6_placeOf_14 : decode cX6_placeOf 14 = .ok (.iload_n 2, 1) := by decide +kernel
theorem dX6_placeOf_15 : decode cX6_placeOf 15 = .ok (.iaload, 1) := by decide +kernel
theorem dX6_placeOf_16 : decode cX6_placeOf 16 = .ok (.iload_n 1, 1) := by decide +kernel
theorem dX6_placeOf_17 : decode cX6_placeOf 17 = .ok (.if_icmp .ne 5, 3) := by decide +kernel
theorem dX6_placeOf_20 : decode cX6_placeOf 20 = .ok (.iload_n 2, 1) := by decide +kernel
theorem dX6_placeOf_21 : decode cX6_placeOf 21 = .ok (.ireturn, 1) := by decide +kernel
theorem dX6_placeOf_22 : decode cX6_placeOf 22 = .ok (.iinc 2 1, 3) := by decide +kernel
theorem dX6_placeOf_25 : decode cX6_placeOf 25 = .ok (.goto (-23), 3) := by decide +kernel
theorem dX6_placeOf_28 : decode cX6_placeOf 28 = .ok (.ldc 21, 2) := by decide +kernel
theorem dX6_placeOf_30 : decode cX6_placeOf 30 = .ok (.ireturn, 1) := by decide +kernel
theorem dX6_differsFrom_0 : decode cX6_differsFrom 0 = .ok (.aload_n 0, 1) := by decide +kernel
theorem dX6_differsFrom_1 : decode cX6_differsFrom 1 = .ok (.getfield 22, 3) := by decide +kernel
theorem dX6_differsFrom_4 : decode cX6_differsFrom 4 = .ok (.aload_n 1, 1) := by decide +kernel
theorem dX6_differsFrom_5 : decode cX6_differsFrom 5 = .ok (.getfield 22, 3) := by decide +kernel
theorem dX6_differsFrom_8 : decode cX6_differsFrom 8 = .ok (.if_icmp .ne 14, 3) := by decide +kernel
theorem dX6_differsFrom_11 : decode cX6_differsFrom 11 = .ok (.aload_n 0, 1) := by decide +kernel
theorem dX6_differsFrom_12 : decode cX6_differsFrom 12 = .ok (.getfield 26, 3) := by decide +kernel
theorem dX6_differsFrom_15 : decode cX6_differsFrom 15 = .ok (.aload_n 1, 1) := by decide +kernel
theorem dX6_differsFrom_16 : decode cX6_differsFrom 16 = .ok (.getfield 26, 3) := by decide +kernel
theorem dX6_differsFrom_19 : decode cX6_differsFrom 19 = .ok (.if_icmp .eq 5, 3) := by decide +kernel
theorem dX6_differsFrom_22 : decode cX6_differsFrom 22 = .ok (.iconst 1, 1) := by decide +kernel
theorem dX6_differsFrom_23 : decode cX6_differsFrom 23 = .ok (.ireturn, 1) := by decide +kernel
theorem dX6_differsFrom_24 : decode cX6_differsFrom 24 = .ok (.aload_n 0, 1) := by decide +kernel
theorem dX6_differsFrom_25 : decode cX6_differsFrom 25 = .ok (.getfield 35, 3) := by decide +kernel
theorem dX6_differsFrom_28 : decode cX6_differsFrom 28 = .ok (.aload_n 1, 1) := by decide +kernel
theorem dX6_differsFrom_29 : decode cX6_differsFrom 29 = .ok (.getfield 35, 3) := by decide +kernel
theorem dX6_differsFrom_32 : decode cX6_differsFrom 32 = .ok (.if_icmp .ne 14, 3) := by decide +kernel
theorem dX6_differsFrom_35 : decode cX6_differsFrom 35 = .ok (.aload_n 0, 1) := by decide +kernel
theorem dX6_differsFrom_36 : decode cX6_differsFrom 36 = .ok (.getfield 32, 3) := by decide +kernel
theorem dX6_differsFrom_39 : decode cX6_differsFrom 39 = .ok (.aload_n 1, 1) := by decide +kernel
theorem dX6_differsFrom_40 : decode cX6_differsFrom 40 = .ok (.getfield 32, 3) := by decide +kernel
theorem dX6_differsFrom_43 : decode cX6_differsFrom 43 = .ok (.if_icmp .eq 5, 3) := by decide +kernel
theorem dX6_differsFrom_46 : decode cX6_differsFrom 46 = .ok (.iconst 1, 1) := by decide +kernel
theorem dX6_differsFrom_47 : decode cX6_differsFrom 47 = .ok (.ireturn, 1) := by decide +kernel
theorem dX6_differsFrom_48 : decode cX6_differsFrom 48 = .ok (.iconst 0, 1) := by decide +kernel
theorem dX6_differsFrom_49 : decode cX6_differsFrom 49 = .ok (.istore_n 2, 1) := by decide +kernel
theorem dX6_differsFrom_50 : decode cX6_differsFrom 50 = .ok (.iload_n 2, 1) := by decide +kernel
theorem dX6_differsFrom_51 : decode cX6_differsFrom 51 = .ok (.aload_n 1, 1) := by decide +kernel
theorem dX6_differsFrom_52 : decode cX6_differsFrom 52 = .ok (.getfield 32, 3) := by decide +kernel
theorem dX6_differsFrom_55 : decode cX6_differsFrom 55 = .ok (.if_icmp .ge 26, 3) := by decide +kernel
theorem dX6_differsFrom_58 : decode cX6_differsFrom 58 = .ok (.aload_n 0, 1) := by decide +kernel
theorem dX6_differsFrom_59 : decode cX6_differsFrom 59 = .ok (.aload_n 1, 1) := by decide +kernel
theorem dX6_differsFrom_60 : decode cX6_differsFrom 60 = .ok (.getfield 9, 3) := by decide +kernel
theorem dX6_differsFrom_63 : decode cX6_differsFrom 63 = .ok (.iload_n 2, 1) := by decide +kernel
theorem dX6_differsFrom_64 : decode cX6_differsFrom 64 = .ok (.iaload, 1) := by decide +kernel
theorem dX6_differsFrom_65 : decode cX6_differsFrom 65 = .ok (.invokevirtual 52, 3) := by decide +kernel
theorem dX6_differsFrom_68 : decode cX6_differsFrom 68 = .ok (.ldc 21, 2) := by decide +kernel
theorem dX6_differsFrom_70 : decode cX6_differsFrom 70 = .ok (.if_icmp .ne 5, 3) := by decide +kernel
theorem dX6_differsFrom_73 : decode cX6_differsFrom 73 = .ok (.iconst 1, 1) := by decide +kernel
theorem dX6_differsFrom_74 : decode cX6_differsFrom 74 = .ok (.ireturn, 1) := by decide +kernel
theorem dX6_differsFrom_75 : decode cX6_differsFrom 75 = .ok (.iinc 2 1, 3) := by decide +kernel
theorem dX6_differsFrom_78 : decode cX6_differsFrom 78 = .ok (.goto (-28), 3) := by decide +kernel
theorem dX6_differsFrom_81 : decode cX6_differsFrom 81 = .ok (.iconst 0, 1) := by decide +kernel
theorem dX6_differsFrom_82 : decode cX6_differsFrom 82 = .ok (.ireturn, 1) := by decide +kernel
theorem dX6_copyFrom_0 : decode cX6_copyFrom 0 = .ok (.aload_n 0, 1) := by decide +kernel
theorem dX6_copyFrom_1 : decode cX6_copyFrom 1 = .ok (.aload_n 1, 1) := by decide +kernel
theorem dX6_copyFrom_2 : decode cX6_copyFrom 2 = .ok (.getfield 22, 3) := by decide +kernel
theorem dX6_copyFrom_5 : decode cX6_copyFrom 5 = .ok (.putfield 22, 3) := by decide +kernel
theorem dX6_copyFrom_8 : decode cX6_copyFrom 8 = .ok (.aload_n 0, 1) := by decide +kernel
theorem dX6_copyFrom_9 : decode cX6_copyFrom 9 = .ok (.aload_n 1, 1) := by decide +kernel
theorem dX6_copyFrom_10 : decode cX6_copyFrom 10 = .ok (.getfield 26, 3) := by decide +kernel
theorem dX6_copyFrom_13 : decode cX6_copyFrom 13 = .ok (.putfield 26, 3) := by decide +kernel
theorem dX6_copyFrom_16 : decode cX6_copyFrom 16 = .ok (.aload_n 0, 1) := by decide +kernel
theorem dX6_copyFrom_17 : decode cX6_copyFrom 17 = .ok (.aload_n 1, 1) := by decide +kernel
theorem dX6_copyFrom_18 : decode cX6_copyFrom 18 = .ok (.getfield 29, 3) := by decide +kernel
theorem dX6_copyFrom_21 : decode cX6_copyFrom 21 = .ok (.putfield 29, 3) := by decide +kernel
theorem dX6_copyFrom_24 : decode cX6_copyFrom 24 = .ok (.aload_n 0, 1) := by decide +kernel
theorem dX6_copyFrom_25 : decode cX6_copyFrom 25 = .ok (.aload_n 1, 1) := by decide +kernel
theorem dX6_copyFrom_26 : decode cX6_copyFrom 26 = .ok (.getfield 32, 3) := by decide +kernel
theorem dX6_copyFrom_29 : decode cX6_copyFrom 29 = .ok (.putfield 32, 3) := by decide +kernel
theorem dX6_copyFrom_32 : decode cX6_copyFrom 32 = .ok (.aload_n 0, 1) := by decide +kernel
theorem dX6_copyFrom_33 : decode cX6_copyFrom 33 = .ok (.aload_n 1, 1) := by decide +kernel
theorem dX6_copyFrom_34 : decode cX6_copyFrom 34 = .ok (.getfield 35, 3) := by decide +kernel
theorem dX6_copyFrom_37 : decode cX6_copyFrom 37 = .ok (.putfield 35, 3) := by decide +kernel
theorem dX6_copyFrom_40 : decode cX6_copyFrom 40 = .ok (.aload_n 1, 1) := by decide +kernel
theorem dX6_copyFrom_41 : decode cX6_copyFrom 41 = .ok (.getfield 9, 3) := by decide +kernel
theorem dX6_copyFrom_44 : decode cX6_copyFrom 44 = .ok (.iconst 0, 1) := by decide +kernel
theorem dX6_copyFrom_45 : decode cX6_copyFrom 45 = .ok (.aload_n 0, 1) := by decide +kernel
theorem dX6_copyFrom_46 : decode cX6_copyFrom 46 = .ok (.getfield 9, 3) := by decide +kernel
theorem dX6_copyFrom_49 : decode cX6_copyFrom 49 = .ok (.iconst 0, 1) := by decide +kernel
theorem dX6_copyFrom_50 : decode cX6_copyFrom 50 = .ok (.iconst 4, 1) := by decide +kernel
theorem dX6_copyFrom_51 : decode cX6_copyFrom 51 = .ok (.invokestatic 56, 3) := by decide +kernel
theorem dX6_copyFrom_54 : decode cX6_copyFrom 54 = .ok (.aload_n 1, 1) := by decide +kernel
theorem dX6_copyFrom_55 : decode cX6_copyFrom 55 = .ok (.getfield 15, 3) := by decide +kernel
theorem dX6_copyFrom_58 : decode cX6_copyFrom 58 = .ok (.iconst 0, 1) := by decide +kernel
theorem dX6_copyFrom_59 : decode cX6_copyFrom 59 = .ok (.aload_n 0, 1) := by decide +kernel
theorem dX6_copyFrom_60 : decode cX6_copyFrom 60 = .ok (.getfield 15, 3) := by decide +kernel
theorem dX6_copyFrom_63 : decode cX6_copyFrom 63 = .ok (.iconst 0, 1) := by decide +kernel
theorem dX6_copyFrom_64 : decode cX6_copyFrom 64 = .ok (.iconst 4, 1) := by decide +kernel
theorem dX6_copyFrom_65 : decode cX6_copyFrom 65 = .ok (.invokestatic 56, 3) := by decide +kernel
theorem dX6_copyFrom_68 : decode cX6_copyFrom 68 = .ok (.return_, 1) := by decide +kernel
theorem dX7_init_0 : decode cX7_init 0 = .ok (.aload_n 0, 1) := by decide +kernel
theorem dX7_init_1 : decode cX7_init 1 = .ok (.invokespecial 3, 3) := by decide +kernel
theorem dX7_init_4 : decode cX7_init 4 = .ok (.aload_n 0, 1) := by decide +kernel
theorem dX7_init_5 : decode cX7_init 5 = .ok (.invokevirtual 9, 3) := by decide +kernel
theorem dX7_init_8 : decode cX7_init 8 = .ok (.return_, 1) := by decide +kernel
theorem dX7_clear_0 : decode cX7_clear 0 = .ok (.aload_n 0, 1) := by decide +kernel
theorem dX7_clear_1 : decode cX7_clear 1 = .ok (.ldc 14, 2) := by decide +kernel
theorem dX7_clear_3 : decode cX7_clear 3 = .ok (.putfield 15, 3) := by decide +kernel
theorem dX7_clear_6 : decode cX7_clear 6 = .ok (.aload_n 0, 1) := by decide +kernel
theorem dX7_clear_7 : decode cX7_clear 7 = .ok (.ldc 14, 2) := by decide +kernel
theorem dX7_clear_9 : decode cX7_clear 9 = .ok (.putfield 19, 3) := by decide +kernel
theorem dX7_clear_12 : decode cX7_clear 12 = .ok (.aload_n 0, 1) := by decide +kernel
theorem dX7_clear_13 : decode cX7_clear 13 = .ok (.iconst 0, 1) := by decide +kernel
theorem dX7_clear_14 : decode cX7_clear 14 = .ok (.putfield 22, 3) := by decide +kernel
theorem dX7_clear_17 : decode cX7_clear 17 = .ok (.aload_n 0, 1) := by decide +kernel
theorem dX7_clear_18 : decode cX7_clear 18 = .ok (.iconst 0, 1) := by decide +kernel
theorem dX7_clear_19 : decode cX7_clear 19 = .ok (.putfield 25, 3) := by decide +kernel
theorem dX7_clear_22 : decode cX7_clear 22 = .ok (.return_, 1) := by decide +kernel
theorem dX7_note_0 : decode cX7_note 0 = .ok (.iload_n 1, 1) := by decide +kernel
theorem dX7_note_1 : decode cX7_note 1 = .ok (.sipush 1000, 3) := by decide +kernel
theorem dX7_note_4 : decode cX7_note 4 = .ok (.if_icmp .ne 14, 3) := by decide +kernel
theorem dX7_note_7 : decode cX7_note 7 = .ok (.aload_n 0, 1) := by decide +kernel
theorem dX7_note_8 : decode cX7_note 8 = .ok (.dup, 1) := by decide +kernel
theorem dX7_note_9 : decode cX7_note 9 = .ok (.getfield 25, 3) := by decide +kernel
theorem dX7_note_12 : decode cX7_note 12 = .ok (.iconst 1, 1) := by decide +kernel
theorem dX7_note_13 : decode cX7_note 13 = .ok (.iadd, 1) := by decide +kernel
theorem dX7_note_14 : decode cX7_note 14 = .ok (.putfield 25, 3) := by decide +kernel
theorem dX7_note_17 : decode cX7_note 17 = .ok (.return_, 1) := by decide +kernel
theorem dX7_note_18 : decode cX7_note 18 = .ok (.aload_n 0, 1) := by decide +kernel
theorem dX7_note_19 : decode cX7_note 19 = .ok (.aload_n 0, 1) := by decide +kernel
theorem dX7_note_20 : decode cX7_note 20 = .ok (.getfield 15, 3) := by decide +kernel
theorem dX7_note_23 : decode cX7_note 23 = .ok (.ldc 14, 2) := by decide +kernel
theorem dX7_note_25 : decode cX7_note 25 = .ok (.if_icmp .ne 7, 3) := by decide +kernel
theorem dX7_note_28 : decode cX7_note 28 = .ok (.iload_n 1, 1) := by decide +kernel
theorem dX7_note_29 : decode cX7_note 29 = .ok (.goto 11, 3) := by decide +kernel
theorem dX7_note_32 : decode cX7_note 32 = .ok (.aload_n 0, 1) := by decide +kernel
theorem dX7_note_33 : decode cX7_note 33 = .ok (.getfield 15, 3) := by decide +kernel
theorem dX7_note_36 : decode cX7_note 36 = .ok (.iload_n 1, 1) := by decide +kernel
theorem dX7_note_37 : decode cX7_note 37 = .ok (.invokestatic 28, 3) := by decide +kernel
theorem dX7_note_40 : decode cX7_note 40 = .ok (.putfield 15, 3) := by decide +kernel
theorem dX7_note_43 : decode cX7_note 43 = .ok (.aload_n 0, 1) := by decide +kernel
theorem dX7_note_44 : decode cX7_note 44 = .ok (.aload_n 0, 1) := by decide +kernel
theorem dX7_note_45 : decode cX7_note 45 = .ok (.getfield 19, 3) := by decide +kernel
theorem dX7_note_48 : decode cX7_note 48 = .ok (.ldc 14, 2) := by decide +kernel
theorem dX7_note_50 : decode cX7_note 50 = .ok (.if_icmp .ne 7, 3) := by decide +kernel
theorem dX7_note_53 : decode cX7_note 53 = .ok (.iload_n 1, 1) := by decide +kernel
theorem dX7_note_54 : decode cX7_note 54 = .ok (.goto 11, 3) := by decide +kernel
theorem dX7_note_57 : decode cX7_note 57 = .ok (.aload_n 0, 1) := by decide +kernel
theorem dX7_note_58 : decode cX7_note 58 = .ok (.getfield 19, 3) := by decide +kernel
theorem dX7_note_61 : decode cX7_note 61 = .ok (.iload_n 1, 1) := by decide +kernel
theorem dX7_note_62 : decode cX7_note 62 = .ok (.invokestatic 34, 3) := by decide +kernel
theorem dX7_note_65 : decode cX7_note 65 = .ok (.putfield 19, 3) := by decide +kernel
theorem dX7_note_68 : decode cX7_note 68 = .ok (.aload_n 0, 1) := by decide +kernel
theorem dX7_note_69 : decode cX7_note 69 = .ok (.dup, 1) := by decide +kernel
theorem dX7_note_70 : decode cX7_note 70 = .ok (.getfield 22, 3) := by decide +kernel
theorem dX7_note_73 : decode cX7_note 73 = .ok (.iload_n 1, 1) := by decide +kernel
theorem dX7_note_74 : decode cX7_note 74 = .ok (.iadd, 1) := by decide +kernel
theorem dX7_note_75 : decode cX7_note 75 = .ok (.putfield 22, 3) := by decide +kernel
theorem dX7_note_78 : decode cX7_note 78 = .ok (.return_, 1) := by decide +kernel
end
section
theorem dX8_init_0 : decode cX8_init 0 = .ok (.aload_n 0, 1) := by decide +kernel
theorem dX8_init_1 : decode cX8_init 1 = .ok (.invokespecial 3, 3) := by decide +kernel
theorem dX8_init_4 : decode cX8_init 4 = .ok (.aload_n 0, 1) := by decide +kernel
theorem dX8_init_5 : decode cX8_init 5 = .ok (.new 9, 3) := by decide +kernel
theorem dX8_init_8 : decode cX8_init 8 = .ok (.dup, 1) := by decide +kernel
theorem dX8_init_9 : decode cX8_init 9 = .ok (.invokespecial 11, 3) := by decide +kernel
theorem dX8_init_12 : decode cX8_init 12 = .ok (.putfield 12, 3) := by decide +kernel
theorem dX8_init_15 : decode cX8_init 15 = .ok (.aload_n 0, 1) := by decide +kernel
theorem dX8_init_16 : decode cX8_init 16 = .ok (.iconst 2, 1) := by decide +kernel
theorem dX8_init_17 : decode cX8_init 17 = .ok (.anewarray 9, 3) := by decide +kernel
theorem dX8_init_20 : decode cX8_init 20 = .ok (.putfield 16, 3) := by decide +kernel
theorem dX8_init_23 : decode cX8_init 23 = .ok (.aload_n 0, 1) := by decide +kernel
theorem dX8_init_24 : decode cX8_init 24 = .ok (.new 20, 3) := by decide +kernel
theorem dX8_init_27 : decode cX8_init 27 = .ok (.dup, 1) := by decide +kernel
theorem dX8_init_28 : decode cX8_init 28 = .ok (.invokespecial 22, 3) := by decide +kernel
theorem dX8_init_31 : decode cX8_init 31 = .ok (.putfield 23, 3) := by decide +kernel
theorem dX8_init_34 : decode cX8_init 34 = .ok (.aload_n 0, 1) := by decide +kernel
theorem dX8_init_35 : decode cX8_init 35 = .ok (.new 27, 3) := by decide +kernel
theorem dX8_init_38 : decode cX8_init 38 = .ok (.dup, 1) := by decide +kernel
theorem dX8_init_39 : decode cX8_init 39 = .ok (.aload_n 0, 1) := by decide +kernel
theorem dX8_init_40 : decode cX8_init 40 = .ok (.getfield 23, 3) := by decide +kernel
theorem dX8_init_43 : decode cX8_init 43 = .ok (.invokespecial 29, 3) := by decide +kernel
theorem dX8_init_46 : decode cX8_init 46 = .ok (.putfield 32, 3) := by decide +kernel
theorem dX8_init_49 : decode cX8_init 49 = .ok (.aload_n 0, 1) := by decide +kernel
theorem dX8_init_50 : decode cX8_init 50 = .ok (.new 36, 3) := by decide +kernel
theorem dX8_init_53 : decode cX8_init 53 = .ok (.dup, 1) := by decide +kernel
theorem dX8_init_54 : decode cX8_init 54 = .ok (.aload_n 0, 1) := by decide +kernel
theorem dX8_init_55 : decode cX8_init 55 = .ok (.getfield 23, 3) := by decide +kernel
theorem dX8_init_58 : decode cX8_init 58 = .ok (.invokespecial 38, 3) := by decide +kernel
theorem dX8_init_61 : decode cX8_init 61 = .ok (.putfield 39, 3) := by decide +kernel
theorem dX8_init_64 : decode cX8_init 64 = .ok (.aload_n 0, 1) := by decide +kernel
theorem dX8_init_65 : decode cX8_init 65 = .ok (.iconst 4, 1) := by decide +kernel
theorem dX8_init_66 : decode cX8_init 66 = .ok (.newarray .int, 2) := by decide +kernel
theorem dX8_init_68 : decode cX8_init 68 = .ok (.putfield 43, 3) := by decide +kernel
theorem dX8_init_71 : decode cX8_init 71 = .ok (.aload_n 0, 1) := by decide +kernel
theorem dX8_init_72 : decode cX8_init 72 = .ok (.bipush 6, 2) := by decide +kernel
theorem dX8_init_74 : decode cX8_init 74 = .ok (.newarray .int, 2) := by decide +kernel
theorem dX8_init_76 : decode cX8_init 76 = .ok (.putfield 47, 3) := by decide +kernel
theorem dX8_init_79 : decode cX8_init 79 = .ok (.aload_n 0, 1) := by decide +kernel
theorem dX8_init_80 : decode cX8_init 80 = .ok (.new 50, 3) := by decide +kernel
theorem dX8_init_83 : decode cX8_init 83 = .ok (.dup, 1) := by decide +kernel
theorem dX8_init_84 : decode cX8_init 84 = .ok (.invokespecial 52, 3) := by decide +kernel
theorem dX8_init_87 : decode cX8_init 87 = .ok (.putfield 53, 3) := by decide +kernel
theorem dX8_init_90 : decode cX8_init 90 = .ok (.aload_n 0, 1) := by decide +kernel
theorem dX8_init_91 : decode cX8_init 91 = .ok (.new 57, 3) := by decide +kernel
theorem dX8_init_94 : decode cX8_init 94 = .ok (.dup, 1) := by decide +kernel
theorem dX8_init_95 : decode cX8_init 95 = .ok (.invokespecial 59, 3) := by decide +kernel
theorem dX8_init_98 : decode cX8_init 98 = .ok (.putfield 60, 3) := by decide +kernel
theorem dX8_init_101 : decode cX8_init 101 = .ok (.return_, 1) := by decide +kernel
theorem dX8_add_0 : decode cX8_add 0 = .ok (.iload_n 1, 1) := by decide +kernel
theorem dX8_add_1 : decode cX8_add 1 = .ok (.invokestatic 64, 3) := by decide +kernel
theorem dX8_add_4 : decode cX8_add 4 = .ok (.ifCond .ne 5, 3) := by decide +kernel
theorem dX8_add_7 : decode cX8_add 7 = .ok (.iconst (-1), 1) := by decide +kernel
theorem dX8_add_8 : decode cX8_add 8 = .ok (.ireturn, 1) := by decide +kernel
theorem dX8_add_9 : decode cX8_add 9 = .ok (.iload_n 2, 1) := by decide +kernel
theorem dX8_add_10 : decode cX8_add 10 = .ok (.invokestatic 68, 3) := by decide +kernel
theorem dX8_add_13 : decode cX8_add 13 = .ok (.ifCond .eq 26, 3) := by decide +kernel
theorem dX8_add_16 : decode cX8_add 16 = .ok (.iload_n 3, 1) := by decide +kernel
theorem dX8_add_17 : decode cX8_add 17 = .ok (.invokestatic 68, 3) := by decide +kernel
theorem dX8_add_20 : decode cX8_add 20 = .ok (.ifCond .eq 19, 3) := by decide +kernel
theorem dX8_add_23 : decode cX8_add 23 = .ok (.iload 4, 2) := by decide +kernel
theorem dX8_add_25 : decode cX8_add 25 = .ok (.invokestatic 68, 3) := by decide +kernel
theorem dX8_add_28 : decode cX8_add 28 = .ok (.ifCond .eq 11, 3) := by decide +kernel
theorem dX8_add_31 : decode cX8_add 31 = .ok (.iload 5, 2) := by decide +kernel
theorem dX8_add_33 : decode cX8_add 33 = .ok (.invokestatic 68, 3) := by decide +kernel
theorem dX8_add_36 : decode cX8_add 36 = .ok (.ifCond .ne 6, 3) := by decide +kernel
theorem dX8_add_39 : decode cX8_add 39 = .ok (.bipush (-2), 2) := by decide +kernel
theorem dX8_add_41 : decode cX8_add 41 = .ok (.ireturn, 1) := by decide +kernel
theorem dX8_add_42 : decode cX8_add 42 = .ok (.aload_n 0, 1) := by decide +kernel
theorem dX8_add_43 : decode cX8_add 43 = .ok (.getfield 12, 3) := by decide +kernel
theorem dX8_add_46 : decode cX8_add 46 = .ok (.getfield 71, 3) := by decide +kernel
theorem dX8_add_49 : decode cX8_add 49 = .ok (.iload_n 1, 1) := by decide +kernel
theorem dX8_add_50 : decode cX8_add 50 = .ok (.aaload, 1) := by decide +kernel
theorem dX8_add_51 : decode cX8_add 51 = .ok (.iload_n 2, 1) := by decide +kernel
theorem dX8_add_52 : decode cX8_add 52 = .ok (.iload_n 3, 1) := by decide +kernel
theorem dX8_add_53 : decode cX8_add 53 = .ok (.iload 4, 2) := by decide +kernel
theorem dX8_add_55 : decode cX8_add 55 = .ok (.iload 5, 2) := by decide +kernel
theorem dX8_add_57 : decode cX8_add 57 = .ok (.invokevirtual 75, 3) := by decide +kernel
theorem dX8_add_60 : decode cX8_add 60 = .ok (.ireturn, 1) := by decide +kernel
theorem dX8_drop_0 : decode cX8_drop 0 = .ok (.aload_n 0, 1) := by decide +kernel
theorem dX8_drop_1 : decode cX8_drop 1 = .ok (.iload_n 1, 1) := by decide +kernel
theorem dX8_drop_2 : decode cX8_drop 2 = .ok (.iload_n 2, 1) := by decide +kernel
theorem dX8_drop_3 : decode cX8_drop 3 = .ok (.invokevirtual 81, 3) := by decide +kernel
theorem dX8_drop_6 : decode cX8_drop 6 = .ok (.ifCond .ne 5, 3) := by decide +kernel
theorem dX8_drop_9 : decode cX8_drop 9 = .ok (.iconst (-1), 1) := by decide +kernel
theorem dX8_drop_10 : decode cX8_drop 10 = .ok (.ireturn, 1) := by decide +kernel
theorem dX8_drop_11 : decode cX8_drop 11 = .ok (.aload_n 0, 1) := by decide +kernel
theorem dX8_drop_12 : decode cX8_drop 12 = .ok (.getfield 12, 3) := by decide +kernel
theorem dX8_drop_15 : decode cX8_drop 15 = .ok (.getfield 71, 3) := by decide +kernel
theorem dX8_drop_18 : decode cX8_drop 18 = .ok (.iload_n 1, 1) := by decide +kernel
theorem dX8_drop_19 : decode cX8_drop 19 = .ok (.aaload, 1) := by decide +kernel
theorem dX8_drop_20 : decode cX8_drop 20 = .ok (.iload_n 2, 1) := by decide +kernel
theorem dX8_drop_21 : decode cX8_drop 21 = .ok (.invokevirtual 85, 3) := by decide +kernel
theorem dX8_drop_24 : decode cX8_drop 24 = .ok (.ireturn, 1) := by decide +kernel
theorem dX8_anew_0 : decode cX8_anew 0 = .ok (.iload_n 1, 1) := by decide +kernel
theorem dX8_anew_1 : decode cX8_anew 1 = .ok (.invokestatic 64, 3) := by decide +kernel
theorem dX8_anew_4 : decode cX8_anew 4 = .ok (.ifCond .ne 5, 3) := by decide +kernel
theorem dX8_anew_7 : decode cX8_anew 7 = .ok (.iconst (-1), 1) := by decide +kernel
theorem dX8_anew_8 : decode cX8_anew 8 = .ok (.ireturn, 1) := by decide +kernel
theorem dX8_anew_9 : decode cX8_anew 9 = .ok (.aload_n 0, 1) := by decide +kernel
theorem dX8_anew_10 : decode cX8_anew 10 = .ok (.getfield 12, 3) := by decide +kernel
theorem dX8_anew_13 : decode cX8_anew 13 = .ok (.getfield 71, 3) := by decide +kernel
theorem dX8_anew_16 : decode cX8_anew 16 = .ok (.iload_n 1, 1) := by decide +kernel
theorem dX8_anew_17 : decode cX8_anew 17 = .ok (.aaload, 1) := by decide +kernel
theorem dX8_anew_18 : decode cX8_anew 18 = .ok (.invokevirtual 89, 3) := by decide +kernel
theorem dX8_anew_21 : decode cX8_anew 21 = .ok (.ireturn, 1) := by decide +kernel
theorem dX8_cell_0 : decode cX8_cell 0 = .ok (.aload_n 0, 1) := by decide +kernel
theorem dX8_cell_1 : decode cX8_cell 1 = .ok (.iload_n 1, 1) := by decide +kernel
theorem dX8_cell_2 : decode cX8_cell 2 = .ok (.iload_n 2, 1) := by decide +kernel
theorem dX8_cell_3 : decode cX8_cell 3 = .ok (.invokevirtual 81, 3) := by decide +kernel
theorem dX8_cell_6 : decode cX8_cell 6 = .ok (.ifCond .eq 10, 3) := by decide +kernel
theorem dX8_cell_9 : decode cX8_cell 9 = .ok (.iload_n 3, 1) := by decide +kernel
theorem dX8_cell_10 : decode cX8_cell 10 = .ok (.invokestatic 93, 3) := by decide +kernel
theorem dX8_cell_13 : decode cX8_cell 13 = .ok (.ifCond .ne 6, 3) := by decide +kernel
theorem dX8_cell_16 : decode cX8_cell 16 = .ok (.ldc 96, 2) := by decide +kernel
theorem dX8_cell_18 : decode cX8_cell 18 = .ok (.ireturn, 1) := by decide +kernel
theorem dX8_cell_19 : decode cX8_cell 19 = .ok (.aload_n 0, 1) := by decide +kernel
theorem dX8_cell_20 : decode cX8_cell 20 = .ok (.getfield 12, 3) := by decide +kernel
theorem dX8_cell_23 : decode cX8_cell 23 = .ok (.getfield 71, 3) := by decide +kernel
theorem dX8_cell_26 : decode cX8_cell 26 = .ok (.iload_n 1, 1) := by decide +kernel
theorem dX8_cell_27 : decode cX8_cell 27 = .ok (.aaload, 1) := by decide +kernel
theorem dX8_cell_28 : decode cX8_cell 28 = .ok (.getfield 97, 3) := by decide +kernel
theorem dX8_cell_31 : decode cX8_cell 31 = .ok (.iload_n 2, 1) := by decide +kernel
theorem dX8_cell_32 : decode cX8_cell 32 = .ok (.aaload, 1) := by decide +kernel
theorem dX8_cell_33 : decode cX8_cell 33 = .ok (.iload_n 3, 1) := by decide +kernel
theorem dX8_cell_34 : decode cX8_cell 34 = .ok (.iaload, 1) := by decide +kernel
theorem dX8_cell_35 : decode cX8_cell 35 = .ok (.ireturn, 1) := by decide +kernel
theorem dX8_summary_0 : decode cX8_summary 0 = .ok (.iload_n 1, 1) := by decide +kernel
theorem dX8_summary_1 : decode cX8_summary 1 = .ok (.invokestatic 64, 3) := by decide +kernel
theorem dX8_summary_4 : decode cX8_summary 4 = .ok (.ifCond .eq 10, 3) := by decide +kernel
theorem dX8_summary_7 : decode cX8_summary 7 = .ok (.iload_n 2, 1) := by decide +kernel
theorem dX8_summary_8 : decode cX8_summary 8 = .ok (.invokestatic 93, 3) := by decide +kernel
theorem dX8_summary_11 : decode cX8_summary 11 = .ok (.ifCond .ne 6, 3) := by decide +kernel
theorem dX8_summary_14 : decode cX8_summary 14 = .ok (.ldc 96, 2) := by decide +kernel
theorem dX8_summary_16 : decode cX8_summary 16 = .ok (.ireturn, 1) := by decide +kernel
theorem dX8_summary_17 : decode cX8_summary 17 = .ok (.aload_n 0, 1) := by decide +kernel
theorem dX8_summary_18 : decode cX8_summary 18 = .ok (.getfield 12, 3) := by decide +kernel
theorem dX8_summary_21 : decode cX8_summary 21 = .ok (.getfield 71, 3) := by decide +kernel
theorem dX8_summary_24 : decode cX8_summary 24 = .ok (.iload_n 1, 1) := by decide +kernel
theorem dX8_summary_25 : decode cX8_summary 25 = .ok (.aaload, 1) := by decide +kernel
theorem dX8_summary_26 : decode cX8_summary 26 = .ok (.getfield 101, 3) := by decide +kernel
theorem dX8_summary_29 : decode cX8_summary 29 = .ok (.iload_n 2, 1) := by decide +kernel
theorem dX8_summary_30 : decode cX8_summary 30 = .ok (.aaload, 1) := by decide +kernel
theorem dX8_summary_31 : decode cX8_summary 31 = .ok (.astore 4, 2) := by decide +kernel
theorem dX8_summary_33 : decode cX8_summary 33 = .ok (.iload_n 3, 1) := by decide +kernel
theorem dX8_summary_34 : decode cX8_summary 34 = .ok (.tableswitch 93 0 4 #[34, 40, 46, 52, 71], 34) := by decide +kernel
theorem dX8_summary_68 : decode cX8_summary 68 = .ok (.aload 4, 2) := by decide +kernel
theorem dX8_summary_70 : decode cX8_summary 70 = .ok (.getfield 105, 3) := by decide +kernel
theorem dX8_summary_73 : decode cX8_summary 73 = .ok (.ireturn, 1) := by decide +kernel
theorem dX8_summary_74 : decode cX8_summary 74 = .ok (.aload 4, 2) := by decide +kernel
theorem dX8_summary_76 : decode cX8_summary 76 = .ok (.getfield 111, 3) := by decide +kernel
theorem dX8_summary_79 : decode cX8_summary 79 = .ok (.ireturn, 1) := by decide +kernel
theorem dX8_summary_80 : decode cX8_summary 80 = .ok (.aload 4, 2) := by decide +kernel
theorem dX8_summary_82 : decode cX8_summary 82 = .ok (.getfield 114, 3) := by decide +kernel
theorem dX8_summary_85 : decode cX8_summary 85 = .ok (.ireturn, 1) := by decide +kernel
theorem dX8_summary_86 : decode cX8_summary 86 = .ok (.aload 4, 2) := by decide +kernel
theorem dX8_summary_88 : decode cX8_summary 88 = .ok (.getfield 117, 3) := by decide +kernel
theorem dX8_summary_91 : decode cX8_summary 91 = .ok (.ifCond .eq 8, 3) := by decide +kernel
theorem dX8_summary_94 : decode cX8_summary 94 = .ok (.ldc 121, 2) := by decide +kernel
theorem dX8_summary_96 : decode cX8_summary 96 = .ok (.goto 8, 3) := by decide +kernel
theorem dX8_summary_99 : decode cX8_summary 99 = .ok (.aload 4, 2) := by decide +kernel
theorem dX8_summary_101 : decode cX8_summary 101 = .ok (.getfield 122, 3) := by decide +kernel
theorem dX8_summary_104 : decode cX8_summary 104 = .ok (.ireturn, 1) := by decide +kernel
theorem dX8_summary_105 : decode cX8_summary 105 = .ok (.aload_n 0, 1) := by decide +kernel
theorem dX8_summary_106 : decode cX8_summary 106 = .ok (.getfield 12, 3) := by decide +kernel
theorem dX8_summary_109 : decode cX8_summary 109 = .ok (.getfield 71, 3) := by decide +kernel
theorem dX8_summary_112 : decode cX8_summary 112 = .ok (.iload_n 1, 1) := by decide +kernel
theorem dX8_summary_113 : decode cX8_summary 113 = .ok (.aaload, 1) := by decide +kernel
theorem dX8_summary_114 : decode cX8_summary 114 = .ok (.iload_n 2, 1) := by decide +kernel
theorem dX8_summary_115 : decode cX8_summary 115 = .ok (.invokevirtual 125, 3) := by decide +kernel
theorem dX8_summary_118 : decode cX8_summary 118 = .ok (.ifCond .eq 7, 3) := by decide +kernel
theorem dX8_summary_121 : decode cX8_summary 121 = .ok (.iconst 1, 1) := by decide +kernel
theorem dX8_summary_122 : decode cX8_summary 122 = .ok (.goto 4, 3) := by decide +kernel
theorem dX8_summary_125 : decode cX8_summary 125 = .ok (.iconst 0, 1) := by decide +kernel
theorem dX8_summary_126 : decode cX8_summary 126 = .ok (.ireturn, 1) := by decide +kernel
theorem dX8_summary_127 : decode cX8_summary 127 = .ok (.ldc 128, 2) := by decide +kernel
theorem dX8_summary_129 : decode cX8_summary 129 = .ok (.ireturn, 1) := by decide +kernel
theorem dX8_listed_0 : decode cX8_listed 0 = .ok (.iload_n 1, 1) := by decide +kernel
theorem dX8_listed_1 : decode cX8_listed 1 = .ok (.invokestatic 64, 3) := by decide +kernel
theorem dX8_listed_4 : decode cX8_listed 4 = .ok (.ifCond .eq 10, 3) := by decide +kernel
theorem dX8_listed_7 : decode cX8_listed 7 = .ok (.iload_n 2, 1) := by decide +kernel
theorem dX8_listed_8 : decode cX8_listed 8 = .ok (.invokestatic 93, 3) := by decide +kernel
theorem dX8_listed_11 : decode cX8_listed 11 = .ok (.ifCond .ne 6, 3) := by decide +kernel
theorem dX8_listed_14 : decode cX8_listed 14 = .ok (.ldc 96, 2) := by decide +kernel
theorem dX8_listed_16 : decode cX8_listed 16 = .ok (.ireturn, 1) := by decide +kernel
theorem dX8_listed_17 : decode cX8_listed 17 = .ok (.iload 4, 2) := by decide +kernel
theorem dX8_listed_19 : decode cX8_listed 19 = .ok (.ifCond .eq 12, 3) := by decide +kernel
theorem dX8_listed_22 : decode cX8_listed 22 = .ok (.iload 4, 2) := by decide +kernel
theorem dX8_listed_24 : decode cX8_listed 24 = .ok (.iconst 1, 1) := by decide +kernel
theorem dX8_listed_25 : decode cX8_listed 25 = .ok (.if_icmp .eq 6, 3) := by decide +kernel
theorem dX8_listed_28 : decode cX8_listed 28 = .ok (.ldc 128, 2) := by decide +kernel
theorem dX8_listed_30 : decode cX8_listed 30 = .ok (.ireturn, 1) := by decide +kernel
theorem dX8_listed_31 : decode cX8_listed 31 = .ok (.aload_n 0, 1) := by decide +kernel
theorem dX8_listed_32 : decode cX8_listed 32 = .ok (.getfield 12, 3) := by decide +kernel
theorem dX8_listed_35 : decode cX8_listed 35 = .ok (.getfield 71, 3) := by decide +kernel
theorem dX8_listed_38 : decode cX8_listed 38 = .ok (.iload_n 1, 1) := by decide +kernel
theorem dX8_listed_39 : decode cX8_listed 39 = .ok (.aaload, 1) := by decide +kernel
theorem dX8_listed_40 : decode cX8_listed 40 = .ok (.getfield 101, 3) := by decide +kernel
theorem dX8_listed_43 : decode cX8_listed 43 = .ok (.iload_n 2, 1) := by decide +kernel
theorem dX8_listed_44 : decode cX8_listed 44 = .ok (.aaload, 1) := by decide +kernel
theorem dX8_listed_45 : decode cX8_listed 45 = .ok (.astore 5, 2) := by decide +kernel
theorem dX8_listed_47 : decode cX8_listed 47 = .ok (.aload 5, 2) := by decide +kernel
theorem dX8_listed_49 : decode cX8_listed 49 = .ok (.getfield 117, 3) := by decide +kernel
theorem dX8_listed_52 : decode cX8_listed 52 = .ok (.ifCond .ne 16, 3) := by decide +kernel
theorem dX8_listed_55 : decode cX8_listed 55 = .ok (.iload_n 3, 1) := by decide +kernel
theorem dX8_listed_56 : decode cX8_listed 56 = .ok (.ifCond .lt 12, 3) := by decide +kernel
theorem dX8_listed_59 : decode cX8_listed 59 = .ok (.iload_n 3, 1) := by decide +kernel
theorem dX8_listed_60 : decode cX8_listed 60 = .ok (.aload 5, 2) := by decide +kernel
theorem dX8_listed_62 : decode cX8_listed 62 = .ok (.getfield 122, 3) := by decide +kernel
theorem dX8_listed_65 : decode cX8_listed 65 = .ok (.if_icmp .lt 6, 3) := by decide +kernel
theorem dX8_listed_68 : decode cX8_listed 68 = .ok (.ldc 121, 2) := by decide +kernel
theorem dX8_listed_70 : decode cX8_listed 70 = .ok (.ireturn, 1) := by decide +kernel
theorem dX8_listed_71 : decode cX8_listed 71 = .ok (.iload 4, 2) := by decide +kernel
theorem dX8_listed_73 : decode cX8_listed 73 = .ok (.ifCond .ne 13, 3) := by decide +kernel
theorem dX8_listed_76 : decode cX8_listed 76 = .ok (.aload 5, 2) := by decide +kernel
theorem dX8_listed_78 : decode cX8_listed 78 = .ok (.getfield 129, 3) := by decide +kernel
theorem dX8_listed_81 : decode cX8_listed 81 = .ok (.iload_n 3, 1) := by decide +kernel
theorem dX8_listed_82 : decode cX8_listed 82 = .ok (.iaload, 1) := by decide +kernel
theorem dX8_listed_83 : decode cX8_listed 83 = .ok (.goto 10, 3) := by decide +kernel
theorem dX8_listed_86 : decode cX8_listed 86 = .ok (.aload 5, 2) := by decide +kernel
theorem dX8_listed_88 : decode cX8_listed 88 = .ok (.getfield 132, 3) := by decide +kernel
theorem dX8_listed_91 : decode cX8_listed 91 = .ok (.iload_n 3, 1) := by decide +kernel
theorem dX8_listed_92 : decode cX8_listed 92 = .ok (.iaload, 1) := by decide +kernel
theorem dX8_listed_93 : decode cX8_listed 93 = .ok (.ireturn, 1) := by decide +kernel
theorem dX8_say_0 : decode cX8_say 0 = .ok (.iload_n 1, 1) := by decide +kernel
theorem dX8_say_1 : decode cX8_say 1 = .ok (.bipush 33, 2) := by decide +kernel
theorem dX8_say_3 : decode cX8_say 3 = .ok (.if_icmp .lt 9, 3) := by decide +kernel
theorem dX8_say_6 : decode cX8_say 6 = .ok (.iload_n 1, 1) := by decide +kernel
theorem dX8_say_7 : decode cX8_say 7 = .ok (.bipush 126, 2) := by decide +kernel
theorem dX8_say_9 : decode cX8_say 9 = .ok (.if_icmp .le 6, 3) := by decide +kernel
theorem dX8_say_12 : decode cX8_say 12 = .ok (.bipush (-2), 2) := by decide +kernel
theorem dX8_say_14 : decode cX8_say 14 = .ok (.ireturn, 1) := by decide +kernel
theorem dX8_say_15 : decode cX8_say 15 = .ok (.aload_n 0, 1) := by decide +kernel
theorem dX8_say_16 : decode cX8_say 16 = .ok (.getfield 23, 3) := by decide +kernel
theorem dX8_say_19 : decode cX8_say 19 = .ok (.iload_n 1, 1) := by decide +kernel
theorem dX8_say_20 : decode cX8_say 20 = .ok (.invokevirtual 135, 3) := by decide +kernel
theorem dX8_say_23 : decode cX8_say 23 = .ok (.ireturn, 1) := by decide +kernel
theorem dX8_wipe_0 : decode cX8_wipe 0 = .ok (.aload_n 0, 1) := by decide +kernel
theorem dX8_wipe_1 : decode cX8_wipe 1 = .ok (.getfield 23, 3) := by decide +kernel
theorem dX8_wipe_4 : decode cX8_wipe 4 = .ok (.getfield 137, 3) := by decide +kernel
theorem dX8_wipe_7 : decode cX8_wipe 7 = .ok (.istore_n 1, 1) := by decide +kernel
theorem dX8_wipe_8 : decode cX8_wipe 8 = .ok (.aload_n 0, 1) := by decide +kernel
theorem dX8_wipe_9 : decode cX8_wipe 9 = .ok (.getfield 23, 3) := by decide +kernel
theorem dX8_wipe_12 : decode cX8_wipe 12 = .ok (.invokevirtual 138, 3) := by decide +kernel
theorem dX8_wipe_15 : decode cX8_wipe 15 = .ok (.iload_n 1, 1) := by decide +kernel
theorem dX8_wipe_16 : decode cX8_wipe 16 = .ok (.ireturn, 1) := by decide +kernel
theorem dX8_fault_0 : decode cX8_fault 0 = .ok (.aload_n 0, 1) := by decide +kernel
theorem dX8_fault_1 : decode cX8_fault 1 = .ok (.getfield 23, 3) := by decide +kernel
theorem dX8_fault_4 : decode cX8_fault 4 = .ok (.invokevirtual 141, 3) := by decide +kernel
theorem dX8_fault_7 : decode cX8_fault 7 = .ok (.ireturn, 1) := by decide +kernel
theorem dX8_truth_0 : decode cX8_truth 0 = .ok (.aload_n 0, 1) := by decide +kernel
theorem dX8_truth_1 : decode cX8_truth 1 = .ok (.iload_n 1, 1) := by decide +kernel
theorem dX8_truth_2 : decode cX8_truth 2 = .ok (.iload_n 2, 1) := by decide +kernel
theorem dX8_truth_3 : decode cX8_truth 3 = .ok (.invokevirtual 81, 3) := by decide +kernel
theorem dX8_truth_6 : decode cX8_truth 6 = .ok (.ifCond .ne 5, 3) := by decide +kernel
theorem dX8_truth_9 : decode cX8_truth 9 = .ok (.iconst (-1), 1) := by decide +kernel
theorem dX8_truth_10 : decode cX8_truth 10 = .ok (.ireturn, 1) := by decide +kernel
theorem dX8_truth_11 : decode cX8_truth 11 = .ok (.aload_n 0, 1) := by decide +kernel
theorem dX8_truth_12 : decode cX8_truth 12 = .ok (.getfield 23, 3) := by decide +kernel
theorem dX8_truth_15 : decode cX8_truth 15 = .ok (.invokevirtual 144, 3) := by decide +kernel
theorem dX8_truth_18 : decode cX8_truth 18 = .ok (.ifCond .eq 6, 3) := by decide +kernel
theorem dX8_truth_21 : decode cX8_truth 21 = .ok (.bipush (-5), 2) := by decide +kernel
theorem dX8_truth_23 : decode cX8_truth 23 = .ok (.ireturn, 1) := by decide +kernel
theorem dX8_truth_24 : decode cX8_truth 24 = .ok (.aload_n 0, 1) := by decide +kernel
theorem dX8_truth_25 : decode cX8_truth 25 = .ok (.getfield 32, 3) := by decide +kernel
theorem dX8_truth_28 : decode cX8_truth 28 = .ok (.aload_n 0, 1) := by decide +kernel
theorem dX8_truth_29 : decode cX8_truth 29 = .ok (.getfield 12, 3) := by decide +kernel
theorem dX8_truth_32 : decode cX8_truth 32 = .ok (.getfield 71, 3) := by decide +kernel
theorem dX8_truth_35 : decode cX8_truth 35 = .ok (.iload_n 1, 1) := by decide +kernel
theorem dX8_truth_36 : decode cX8_truth 36 = .ok (.aaload, 1) := by decide +kernel
theorem dX8_truth_37 : decode cX8_truth 37 = .ok (.getfield 97, 3) := by decide +kernel
theorem dX8_truth_40 : decode cX8_truth 40 = .ok (.iload_n 2, 1) := by decide +kernel
theorem dX8_truth_41 : decode cX8_truth 41 = .ok (.aaload, 1) := by decide +kernel
theorem dX8_truth_42 : decode cX8_truth 42 = .ok (.invokevirtual 148, 3) := by decide +kernel
theorem dX8_truth_45 : decode cX8_truth 45 = .ok (.ireturn, 1) := by decide +kernel
theorem dX8_range_0 : decode cX8_range 0 = .ok (.iload_n 1, 1) := by decide +kernel
theorem dX8_range_1 : decode cX8_range 1 = .ok (.invokestatic 64, 3) := by decide +kernel
theorem dX8_range_4 : decode cX8_range 4 = .ok (.ifCond .ne 6, 3) := by decide +kernel
theorem dX8_range_7 : decode cX8_range 7 = .ok (.ldc 96, 2) := by decide +kernel
theorem dX8_range_9 : decode cX8_range 9 = .ok (.ireturn, 1) := by decide +kernel
theorem dX8_range_10 : decode cX8_range 10 = .ok (.aload_n 0, 1) := by decide +kernel
theorem dX8_range_11 : decode cX8_range 11 = .ok (.iload_n 2, 1) := by decide +kernel
theorem dX8_range_12 : decode cX8_range 12 = .ok (.invokevirtual 152, 3) := by decide +kernel
theorem dX8_range_15 : decode cX8_range 15 = .ok (.ifCond .eq 12, 3) := by decide +kernel
theorem dX8_range_18 : decode cX8_range 18 = .ok (.iload_n 3, 1) := by decide +kernel
theorem dX8_range_19 : decode cX8_range 19 = .ok (.ifCond .lt 8, 3) := by decide +kernel
theorem dX8_range_22 : decode cX8_range 22 = .ok (.iload_n 3, 1) := by decide +kernel
theorem dX8_range_23 : decode cX8_range 23 = .ok (.iconst 2, 1) := by decide +kernel
theorem dX8_range_24 : decode cX8_range 24 = .ok (.if_icmp .le 6, 3) := by decide +kernel
theorem dX8_range_27 : decode cX8_range 27 = .ok (.ldc 128, 2) := by decide +kernel
theorem dX8_range_29 : decode cX8_range 29 = .ok (.ireturn, 1) := by decide +kernel
theorem dX8_range_30 : decode cX8_range 30 = .ok (.aload_n 0, 1) := by decide +kernel
theorem dX8_range_31 : decode cX8_range 31 = .ok (.getfield 23, 3) := by decide +kernel
theorem dX8_range_34 : decode cX8_range 34 = .ok (.invokevirtual 144, 3) := by decide +kernel
theorem dX8_range_37 : decode cX8_range 37 = .ok (.ifCond .eq 6, 3) := by decide +kernel
theorem dX8_range_40 : decode cX8_range 40 = .ok (.ldc 155, 2) := by decide +kernel
theorem dX8_range_42 : decode cX8_range 42 = .ok (.ireturn, 1) := by decide +kernel
theorem dX8_range_43 : decode cX8_range 43 = .ok (.aload_n 0, 1) := by decide +kernel
theorem dX8_range_44 : decode cX8_range 44 = .ok (.getfield 12, 3) := by decide +kernel
theorem dX8_range_47 : decode cX8_range 47 = .ok (.getfield 71, 3) := by decide +kernel
theorem dX8_range_50 : decode cX8_range 50 = .ok (.iload_n 1, 1) := by decide +kernel
theorem dX8_range_51 : decode cX8_range 51 = .ok (.aaload, 1) := by decide +kernel
theorem dX8_range_52 : decode cX8_range 52 = .ok (.getfield 156, 3) := by decide +kernel
theorem dX8_range_55 : decode cX8_range 55 = .ok (.ifCond .eq 16, 3) := by decide +kernel
theorem dX8_range_58 : decode cX8_range 58 = .ok (.aload_n 0, 1) := by decide +kernel
theorem dX8_range_59 : decode cX8_range 59 = .ok (.getfield 23, 3) := by decide +kernel
theorem dX8_range_62 : decode cX8_range 62 = .ok (.getfield 159, 3) := by decide +kernel
theorem dX8_range_65 : decode cX8_range 65 = .ok (.iload_n 2, 1) := by decide +kernel
theorem dX8_range_66 : decode cX8_range 66 = .ok (.iaload, 1) := by decide +kernel
theorem dX8_range_67 : decode cX8_range 67 = .ok (.iconst 2, 1) := by decide +kernel
theorem dX8_range_68 : decode cX8_range 68 = .ok (.if_icmp .eq 6, 3) := by decide +kernel
theorem dX8_range_71 : decode cX8_range 71 = .ok (.ldc 162, 2) := by decide +kernel
theorem dX8_range_73 : decode cX8_range 73 = .ok (.ireturn, 1) := by decide +kernel
theorem dX8_range_74 : decode cX8_range 74 = .ok (.aload_n 0, 1) := by decide +kernel
theorem dX8_range_75 : decode cX8_range 75 = .ok (.getfield 39, 3) := by decide +kernel
theorem dX8_range_78 : decode cX8_range 78 = .ok (.aload_n 0, 1) := by decide +kernel
theorem dX8_range_79 : decode cX8_range 79 = .ok (.getfield 12, 3) := by decide +kernel
theorem dX8_range_82 : decode cX8_range 82 = .ok (.getfield 71, 3) := by decide +kernel
theorem dX8_range_85 : decode cX8_range 85 = .ok (.iload_n 1, 1) := by decide +kernel
theorem dX8_range_86 : decode cX8_range 86 = .ok (.aaload, 1) := by decide +kernel
theorem dX8_range_87 : decode cX8_range 87 = .ok (.invokevirtual 163, 3) := by decide +kernel
theorem dX8_range_90 : decode cX8_range 90 = .ok (.iload_n 3, 1) := by decide +kernel
theorem dX8_range_91 : decode cX8_range 91 = .ok (.ifCond .ne 13, 3) := by decide +kernel
theorem dX8_range_94 : decode cX8_range 94 = .ok (.aload_n 0, 1) := by decide +kernel
theorem dX8_range_95 : decode cX8_range 95 = .ok (.getfield 39, 3) := by decide +kernel
theorem dX8_range_98 : decode cX8_range 98 = .ok (.getfield 166, 3) := by decide +kernel
theorem dX8_range_101 : decode cX8_range 101 = .ok (.iload_n 2, 1) := by decide +kernel
theorem dX8_range_102 : decode cX8_range 102 = .ok (.iaload, 1) := by decide +kernel
theorem dX8_range_103 : decode cX8_range 103 = .ok (.ireturn, 1) := by decide +kernel
theorem dX8_range_104 : decode cX8_range 104 = .ok (.iload_n 3, 1) := by decide +kernel
theorem dX8_range_105 : decode cX8_range 105 = .ok (.iconst 1, 1) := by decide +kernel
theorem dX8_range_106 : decode cX8_range 106 = .ok (.if_icmp .ne 15, 3) := by decide +kernel
theorem dX8_range_109 : decode cX8_range 109 = .ok (.aload_n 0, 1) := by decide +kernel
theorem dX8_range_110 : decode cX8_range 110 = .ok (.getfield 39, 3) := by decide +kernel
theorem dX8_range_113 : decode cX8_range 113 = .ok (.getfield 169, 3) := by decide +kernel
theorem dX8_range_116 : decode cX8_range 116 = .ok (.iload_n 2, 1) := by decide +kernel
theorem dX8_range_117 : decode cX8_range 117 = .ok (.iaload, 1) := by decide +kernel
theorem dX8_range_118 : decode cX8_range 118 = .ok (.goto 12, 3) := by decide +kernel
theorem dX8_range_121 : decode cX8_range 121 = .ok (.aload_n 0, 1) := by decide +kernel
theorem dX8_range_122 : decode cX8_range 122 = .ok (.getfield 39, 3) := by decide +kernel
theorem dX8_range_125 : decode cX8_range 125 = .ok (.getfield 172, 3) := by decide +kernel
theorem dX8_range_128 : decode cX8_range 128 = .ok (.iload_n 2, 1) := by decide +kernel
theorem dX8_range_129 : decode cX8_range 129 = .ok (.iaload, 1) := by decide +kernel
theorem dX8_range_130 : decode cX8_range 130 = .ok (.ireturn, 1) := by decide +kernel
theorem dX8_may_0 : decode cX8_may 0 = .ok (.iload_n 1, 1) := by decide +kernel
theorem dX8_may_1 : decode cX8_may 1 = .ok (.invokestatic 64, 3) := by decide +kernel
theorem dX8_may_4 : decode cX8_may 4 = .ok (.ifCond .ne 5, 3) := by decide +kernel
theorem dX8_may_7 : decode cX8_may 7 = .ok (.iconst (-1), 1) := by decide +kernel
theorem dX8_may_8 : decode cX8_may 8 = .ok (.ireturn, 1) := by decide +kernel
theorem dX8_may_9 : decode cX8_may 9 = .ok (.aload_n 0, 1) := by decide +kernel
theorem dX8_may_10 : decode cX8_may 10 = .ok (.iload_n 2, 1) := by decide +kernel
theorem dX8_may_11 : decode cX8_may 11 = .ok (.invokevirtual 152, 3) := by decide +kernel
theorem dX8_may_14 : decode cX8_may 14 = .ok (.ifCond .ne 6, 3) := by decide +kernel
theorem dX8_may_17 : decode cX8_may 17 = .ok (.bipush (-2), 2) := by decide +kernel
theorem dX8_may_19 : decode cX8_may 19 = .ok (.ireturn, 1) := by decide +kernel
theorem dX8_may_20 : decode cX8_may 20 = .ok (.aload_n 0, 1) := by decide +kernel
theorem dX8_may_21 : decode cX8_may 21 = .ok (.getfield 23, 3) := by decide +kernel
theorem dX8_may_24 : decode cX8_may 24 = .ok (.invokevirtual 144, 3) := by decide +kernel
theorem dX8_may_27 : decode cX8_may 27 = .ok (.ifCond .eq 6, 3) := by decide +kernel
theorem dX8_may_30 : decode cX8_may 30 = .ok (.bipush (-5), 2) := by decide +kernel
theorem dX8_may_32 : decode cX8_may 32 = .ok (.ireturn, 1) := by decide +kernel
theorem dX8_may_33 : decode cX8_may 33 = .ok (.aload_n 0, 1) := by decide +kernel
theorem dX8_may_34 : decode cX8_may 34 = .ok (.getfield 12, 3) := by decide +kernel
theorem dX8_may_37 : decode cX8_may 37 = .ok (.getfield 71, 3) := by decide +kernel
theorem dX8_may_40 : decode cX8_may 40 = .ok (.iload_n 1, 1) := by decide +kernel
theorem dX8_may_41 : decode cX8_may 41 = .ok (.aaload, 1) := by decide +kernel
theorem dX8_may_42 : decode cX8_may 42 = .ok (.getfield 156, 3) := by decide +kernel
theorem dX8_may_45 : decode cX8_may 45 = .ok (.ifCond .eq 16, 3) := by decide +kernel
theorem dX8_may_48 : decode cX8_may 48 = .ok (.aload_n 0, 1) := by decide +kernel
theorem dX8_may_49 : decode cX8_may 49 = .ok (.getfield 23, 3) := by decide +kernel
theorem dX8_may_52 : decode cX8_may 52 = .ok (.getfield 159, 3) := by decide +kernel
theorem dX8_may_55 : decode cX8_may 55 = .ok (.iload_n 2, 1) := by decide +kernel
theorem dX8_may_56 : decode cX8_may 56 = .ok (.iaload, 1) := by decide +kernel
theorem dX8_may_57 : decode cX8_may 57 = .ok (.iconst 1, 1) := by decide +kernel
theorem dX8_may_58 : decode cX8_may 58 = .ok (.if_icmp .eq 6, 3) := by decide +kernel
theorem dX8_may_61 : decode cX8_may 61 = .ok (.bipush (-3), 2) := by decide +kernel
theorem dX8_may_63 : decode cX8_may 63 = .ok (.ireturn, 1) := by decide +kernel
theorem dX8_may_64 : decode cX8_may 64 = .ok (.aload_n 0, 1) := by decide +kernel
theorem dX8_may_65 : decode cX8_may 65 = .ok (.getfield 39, 3) := by decide +kernel
theorem dX8_may_68 : decode cX8_may 68 = .ok (.aload_n 0, 1) := by decide +kernel
theorem dX8_may_69 : decode cX8_may 69 = .ok (.getfield 12, 3) := by decide +kernel
theorem dX8_may_72 : decode cX8_may 72 = .ok (.getfield 71, 3) := by decide +kernel
theorem dX8_may_75 : decode cX8_may 75 = .ok (.iload_n 1, 1) := by decide +kernel
theorem dX8_may_76 : decode cX8_may 76 = .ok (.aaload, 1) := by decide +kernel
theorem dX8_may_77 : decode cX8_may 77 = .ok (.invokevirtual 163, 3) := by decide +kernel
theorem dX8_may_80 : decode cX8_may 80 = .ok (.aload_n 0, 1) := by decide +kernel
theorem dX8_may_81 : decode cX8_may 81 = .ok (.getfield 39, 3) := by decide +kernel
theorem dX8_may_84 : decode cX8_may 84 = .ok (.getfield 166, 3) := by decide +kernel
theorem dX8_may_87 : decode cX8_may 87 = .ok (.iload_n 2, 1) := by decide +kernel
theorem dX8_may_88 : decode cX8_may 88 = .ok (.iaload, 1) := by decide +kernel
theorem dX8_may_89 : decode cX8_may 89 = .ok (.ireturn, 1) := by decide +kernel
theorem dX8_verdict_0 : decode cX8_verdict 0 = .ok (.iload_n 1, 1) := by decide +kernel
theorem dX8_verdict_1 : decode cX8_verdict 1 = .ok (.invokestatic 64, 3) := by decide +kernel
theorem dX8_verdict_4 : decode cX8_verdict 4 = .ok (.ifCond .ne 5, 3) := by decide +kernel
theorem dX8_verdict_7 : decode cX8_verdict 7 = .ok (.iconst (-1), 1) := by decide +kernel
theorem dX8_verdict_8 : decode cX8_verdict 8 = .ok (.ireturn, 1) := by decide +kernel
theorem dX8_verdict_9 : decode cX8_verdict 9 = .ok (.iload_n 2, 1) := by decide +kernel
theorem dX8_verdict_10 : decode cX8_verdict 10 = .ok (.ifCond .eq 11, 3) := by decide +kernel
theorem dX8_verdict_13 : decode cX8_verdict 13 = .ok (.iload_n 2, 1) := by decide +kernel
theorem dX8_verdict_14 : decode cX8_verdict 14 = .ok (.iconst 1, 1) := by decide +kernel
theorem dX8_verdict_15 : decode cX8_verdict 15 = .ok (.if_icmp .eq 6, 3) := by decide +kernel
theorem dX8_verdict_18 : decode cX8_verdict 18 = .ok (.bipush (-2), 2) := by decide +kernel
theorem dX8_verdict_20 : decode cX8_verdict 20 = .ok (.ireturn, 1) := by decide +kernel
theorem dX8_verdict_21 : decode cX8_verdict 21 = .ok (.aload_n 0, 1) := by decide +kernel
theorem dX8_verdict_22 : decode cX8_verdict 22 = .ok (.getfield 23, 3) := by decide +kernel
theorem dX8_verdict_25 : decode cX8_verdict 25 = .ok (.invokevirtual 144, 3) := by decide +kernel
theorem dX8_verdict_28 : decode cX8_verdict 28 = .ok (.ifCond .eq 6, 3) := by decide +kernel
theorem dX8_verdict_31 : decode cX8_verdict 31 = .ok (.bipush (-5), 2) := by decide +kernel
theorem dX8_verdict_33 : decode cX8_verdict 33 = .ok (.ireturn, 1) := by decide +kernel
theorem dX8_verdict_34 : decode cX8_verdict 34 = .ok (.aload_n 0, 1) := by decide +kernel
theorem dX8_verdict_35 : decode cX8_verdict 35 = .ok (.aload_n 0, 1) := by decide +kernel
theorem dX8_verdict_36 : decode cX8_verdict 36 = .ok (.getfield 12, 3) := by decide +kernel
theorem dX8_verdict_39 : decode cX8_verdict 39 = .ok (.getfield 71, 3) := by decide +kernel
theorem dX8_verdict_42 : decode cX8_verdict 42 = .ok (.iload_n 1, 1) := by decide +kernel
theorem dX8_verdict_43 : decode cX8_verdict 43 = .ok (.aaload, 1) := by decide +kernel
theorem dX8_verdict_44 : decode cX8_verdict 44 = .ok (.invokevirtual 175, 3) := by decide +kernel
theorem dX8_verdict_47 : decode cX8_verdict 47 = .ok (.istore_n 3, 1) := by decide +kernel
theorem dX8_verdict_48 : decode cX8_verdict 48 = .ok (.iload_n 2, 1) := by decide +kernel
theorem dX8_verdict_49 : decode cX8_verdict 49 = .ok (.ifCond .ne 10, 3) := by decide +kernel
theorem dX8_verdict_52 : decode cX8_verdict 52 = .ok (.iload_n 3, 1) := by decide +kernel
theorem dX8_verdict_53 : decode cX8_verdict 53 = .ok (.invokestatic 179, 3) := by decide +kernel
theorem dX8_verdict_56 : decode cX8_verdict 56 = .ok (.goto 4, 3) := by decide +kernel
theorem dX8_verdict_59 : decode cX8_verdict 59 = .ok (.iload_n 3, 1) := by decide +kernel
theorem dX8_verdict_60 : decode cX8_verdict 60 = .ok (.ireturn, 1) := by decide +kernel
theorem dX8_answer_0 : decode cX8_answer 0 = .ok (.iload_n 1, 1) := by decide +kernel
theorem dX8_answer_1 : decode cX8_answer 1 = .ok (.ifCond .lt 8, 3) := by decide +kernel
theorem dX8_answer_4 : decode cX8_answer 4 = .ok (.iload_n 1, 1) := by decide +kernel
theorem dX8_answer_5 : decode cX8_answer 5 = .ok (.iconst 5, 1) := by decide +kernel
theorem dX8_answer_6 : decode cX8_answer 6 = .ok (.if_icmp .le 6, 3) := by decide +kernel
theorem dX8_answer_9 : decode cX8_answer 9 = .ok (.bipush (-2), 2) := by decide +kernel
theorem dX8_answer_11 : decode cX8_answer 11 = .ok (.ireturn, 1) := by decide +kernel
theorem dX8_answer_12 : decode cX8_answer 12 = .ok (.aload_n 0, 1) := by decide +kernel
theorem dX8_answer_13 : decode cX8_answer 13 = .ok (.getfield 23, 3) := by decide +kernel
theorem dX8_answer_16 : decode cX8_answer 16 = .ok (.invokevirtual 144, 3) := by decide +kernel
theorem dX8_answer_19 : decode cX8_answer 19 = .ok (.ifCond .eq 6, 3) := by decide +kernel
theorem dX8_answer_22 : decode cX8_answer 22 = .ok (.bipush (-5), 2) := by decide +kernel
theorem dX8_answer_24 : decode cX8_answer 24 = .ok (.ireturn, 1) := by decide +kernel
theorem dX8_answer_25 : decode cX8_answer 25 = .ok (.iload_n 1, 1) := by decide +kernel
theorem dX8_answer_26 : decode cX8_answer 26 = .ok (.tableswitch 45 0 2 #[26, 31, 36], 26) := by decide +kernel
theorem dX8_answer_52 : decode cX8_answer 52 = .ok (.aload_n 0, 1) := by decide +kernel
theorem dX8_answer_53 : decode cX8_answer 53 = .ok (.invokevirtual 182, 3) := by decide +kernel
theorem dX8_answer_56 : decode cX8_answer 56 = .ok (.ireturn, 1) := by decide +kernel
theorem dX8_answer_57 : decode cX8_answer 57 = .ok (.aload_n 0, 1) := by decide +kernel
theorem dX8_answer_58 : decode cX8_answer 58 = .ok (.invokevirtual 185, 3) := by decide +kernel
theorem dX8_answer_61 : decode cX8_answer 61 = .ok (.ireturn, 1) := by decide +kernel
theorem dX8_answer_62 : decode cX8_answer 62 = .ok (.aload_n 0, 1) := by decide +kernel
theorem dX8_answer_63 : decode cX8_answer 63 = .ok (.invokevirtual 188, 3) := by decide +kernel
theorem dX8_answer_66 : decode cX8_answer 66 = .ok (.aload_n 0, 1) := by decide +kernel
theorem dX8_answer_67 : decode cX8_answer 67 = .ok (.invokevirtual 191, 3) := by decide +kernel
theorem dX8_answer_70 : decode cX8_answer 70 = .ok (.ireturn, 1) := by decide +kernel
theorem dX8_answer_71 : decode cX8_answer 71 = .ok (.aload_n 0, 1) := by decide +kernel
theorem dX8_answer_72 : decode cX8_answer 72 = .ok (.invokevirtual 188, 3) := by decide +kernel
theorem dX8_answer_75 : decode cX8_answer 75 = .ok (.aload_n 0, 1) := by decide +kernel
theorem dX8_answer_76 : decode cX8_answer 76 = .ok (.iload_n 1, 1) := by decide +kernel
theorem dX8_answer_77 : decode cX8_answer 77 = .ok (.iconst 3, 1) := by decide +kernel
theorem dX8_answer_78 : decode cX8_answer 78 = .ok (.isub, 1) := by decide +kernel
theorem dX8_answer_79 : decode cX8_answer 79 = .ok (.invokevirtual 194, 3) := by decide +kernel
theorem dX8_answer_82 : decode cX8_answer 82 = .ok (.ireturn, 1) := by decide +kernel
theorem dX8_total_0 : decode cX8_total 0 = .ok (.iload_n 1, 1) := by decide +kernel
theorem dX8_total_1 : decode cX8_total 1 = .ok (.invokestatic 93, 3) := by decide +kernel
theorem dX8_total_4 : decode cX8_total 4 = .ok (.ifCond .ne 6, 3) := by decide +kernel
theorem dX8_total_7 : decode cX8_total 7 = .ok (.ldc 96, 2) := by decide +kernel
theorem dX8_total_9 : decode cX8_total 9 = .ok (.ireturn, 1) := by decide +kernel
theorem dX8_total_10 : decode cX8_total 10 = .ok (.iload_n 2, 1) := by decide +kernel
theorem dX8_total_11 : decode cX8_total 11 = .ok (.ifCond .lt 8, 3) := by decide +kernel
theorem dX8_total_14 : decode cX8_total 14 = .ok (.iload_n 2, 1) := by decide +kernel
theorem dX8_total_15 : decode cX8_total 15 = .ok (.iconst 4, 1) := by decide +kernel
theorem dX8_total_16 : decode cX8_total 16 = .ok (.if_icmp .le 6, 3) := by decide +kernel
theorem dX8_total_19 : decode cX8_total 19 = .ok (.ldc 128, 2) := by decide +kernel
theorem dX8_total_21 : decode cX8_total 21 = .ok (.ireturn, 1) := by decide +kernel
theorem dX8_total_22 : decode cX8_total 22 = .ok (.aload_n 0, 1) := by decide +kernel
theorem dX8_total_23 : decode cX8_total 23 = .ok (.getfield 23, 3) := by decide +kernel
theorem dX8_total_26 : decode cX8_total 26 = .ok (.invokevirtual 144, 3) := by decide +kernel
theorem dX8_total_29 : decode cX8_total 29 = .ok (.ifCond .eq 6, 3) := by decide +kernel
theorem dX8_total_32 : decode cX8_total 32 = .ok (.ldc 155, 2) := by decide +kernel
theorem dX8_total_34 : decode cX8_total 34 = .ok (.ireturn, 1) := by decide +kernel
theorem dX8_total_35 : decode cX8_total 35 = .ok (.iload_n 2, 1) := by decide +kernel
theorem dX8_total_36 : decode cX8_total 36 = .ok (.iconst 4, 1) := by decide +kernel
theorem dX8_total_37 : decode cX8_total 37 = .ok (.if_icmp .ne 13, 3) := by decide +kernel
theorem dX8_total_40 : decode cX8_total 40 = .ok (.aload_n 0, 1) := by decide +kernel
theorem dX8_total_41 : decode cX8_total 41 = .ok (.invokevirtual 188, 3) := by decide +kernel
theorem dX8_total_44 : decode cX8_total 44 = .ok (.aload_n 0, 1) := by decide +kernel
theorem dX8_total_45 : decode cX8_total 45 = .ok (.iload_n 1, 1) := by decide +kernel
theorem dX8_total_46 : decode cX8_total 46 = .ok (.invokevirtual 197, 3) := by decide +kernel
theorem dX8_total_49 : decode cX8_total 49 = .ok (.ireturn, 1) := by decide +kernel
theorem dX8_total_50 : decode cX8_total 50 = .ok (.aload_n 0, 1) := by decide +kernel
theorem dX8_total_51 : decode cX8_total 51 = .ok (.iload_n 1, 1) := by decide +kernel
theorem dX8_total_52 : decode cX8_total 52 = .ok (.invokevirtual 200, 3) := by decide +kernel
theorem dX8_total_55 : decode cX8_total 55 = .ok (.iload_n 2, 1) := by decide +kernel
theorem dX8_total_56 : decode cX8_total 56 = .ok (.tableswitch 52 0 2 #[28, 36, 44], 28) := by decide +kernel
theorem dX8_total_84 : decode cX8_total 84 = .ok (.aload_n 0, 1) := by decide +kernel
theorem dX8_total_85 : decode cX8_total 85 = .ok (.getfield 60, 3) := by decide +kernel
theorem dX8_total_88 : decode cX8_total 88 = .ok (.getfield 204, 3) := by decide +kernel
theorem dX8_total_91 : decode cX8_total 91 = .ok (.ireturn, 1) := by decide +kernel
theorem dX8_total_92 : decode cX8_total 92 = .ok (.aload_n 0, 1) := by decide +kernel
theorem dX8_total_93 : decode cX8_total 93 = .ok (.getfield 60, 3) := by decide +kernel
theorem dX8_total_96 : decode cX8_total 96 = .ok (.getfield 205, 3) := by decide +kernel
theorem dX8_total_99 : decode cX8_total 99 = .ok (.ireturn, 1) := by decide +kernel
theorem dX8_total_100 : decode cX8_total 100 = .ok (.aload_n 0, 1) := by decide +kernel
theorem dX8_total_101 : decode cX8_total 101 = .ok (.getfield 60, 3) := by decide +kernel
theorem dX8_total_104 : decode cX8_total 104 = .ok (.getfield 206, 3) := by decide +kernel
theorem dX8_total_107 : decode cX8_total 107 = .ok (.ireturn, 1) := by decide +kernel
theorem dX8_total_108 : decode cX8_total 108 = .ok (.aload_n 0, 1) := by decide +kernel
theorem dX8_total_109 : decode cX8_total 109 = .ok (.getfield 60, 3) := by decide +kernel
theorem dX8_total_112 : decode cX8_total 112 = .ok (.getfield 209, 3) := by decide +kernel
theorem dX8_total_115 : decode cX8_total 115 = .ok (.ireturn, 1) := by decide +kernel
theorem dX8_image_0 : decode cX8_image 0 = .ok (.iload_n 1, 1) := by decide +kernel
theorem dX8_image_1 : decode cX8_image 1 = .ok (.invokestatic 210, 3) := by decide +kernel
theorem dX8_image_4 : decode cX8_image 4 = .ok (.ifCond .ne 6, 3) := by decide +kernel
theorem dX8_image_7 : decode cX8_image 7 = .ok (.bipush (-2), 2) := by decide +kernel
theorem dX8_image_9 : decode cX8_image 9 = .ok (.ireturn, 1) := by decide +kernel
theorem dX8_image_10 : decode cX8_image 10 = .ok (.aload_n 0, 1) := by decide +kernel
theorem dX8_image_11 : decode cX8_image 11 = .ok (.getfield 16, 3) := by decide +kernel
theorem dX8_image_14 : decode cX8_image 14 = .ok (.iload_n 1, 1) := by decide +kernel
theorem dX8_image_15 : decode cX8_image 15 = .ok (.aaload, 1) := by decide +kernel
theorem dX8_image_16 : decode cX8_image 16 = .ok (.ifnonnull 16, 3) := by decide +kernel
theorem dX8_image_19 : decode cX8_image 19 = .ok (.aload_n 0, 1) := by decide +kernel
theorem dX8_image_20 : decode cX8_image 20 = .ok (.getfield 16, 3) := by decide +kernel
theorem dX8_image_23 : decode cX8_image 23 = .ok (.iload_n 1, 1) := by decide +kernel
theorem dX8_image_24 : decode cX8_image 24 = .ok (.new 9, 3) := by decide +kernel
theorem dX8_image_27 : decode cX8_image 27 = .ok (.dup, 1) := by decide +kernel
theorem dX8_image_28 : decode cX8_image 28 = .ok (.invokespecial 11, 3) := by decide +kernel
theorem dX8_image_31 : decode cX8_image 31 = .ok (.aastore, 1) := by decide +kernel
theorem dX8_image_32 : decode cX8_image 32 = .ok (.aload_n 0, 1) := by decide +kernel
theorem dX8_image_33 : decode cX8_image 33 = .ok (.getfield 16, 3) := by decide +kernel
theorem dX8_image_36 : decode cX8_image 36 = .ok (.iload_n 1, 1) := by decide +kernel
theorem dX8_image_37 : decode cX8_image 37 = .ok (.aaload, 1) := by decide +kernel
theorem dX8_image_38 : decode cX8_image 38 = .ok (.aload_n 0, 1) := by decide +kernel
theorem dX8_image_39 : decode cX8_image 39 = .ok (.getfield 12, 3) := by decide +kernel
theorem dX8_image_42 : decode cX8_image 42 = .ok (.invokevirtual 213, 3) := by decide +kernel
theorem dX8_image_45 : decode cX8_image 45 = .ok (.iconst 1, 1) := by decide +kernel
theorem dX8_image_46 : decode cX8_image 46 = .ok (.ireturn, 1) := by decide +kernel
theorem dX8_restore_0 : decode cX8_restore 0 = .ok (.iload_n 1, 1) := by decide +kernel
theorem dX8_restore_1 : decode cX8_restore 1 = .ok (.invokestatic 210, 3) := by decide +kernel
theorem dX8_restore_4 : decode cX8_restore 4 = .ok (.ifCond .ne 6, 3) := by decide +kernel
theorem dX8_restore_7 : decode cX8_restore 7 = .ok (.bipush (-2), 2) := by decide +kernel
theorem dX8_restore_9 : decode cX8_restore 9 = .ok (.ireturn, 1) := by decide +kernel
theorem dX8_restore_10 : decode cX8_restore 10 = .ok (.aload_n 0, 1) := by decide +kernel
theorem dX8_restore_11 : decode cX8_restore 11 = .ok (.getfield 16, 3) := by decide +kernel
theorem dX8_restore_14 : decode cX8_restore 14 = .ok (.iload_n 1, 1) := by decide +kernel
theorem dX8_restore_15 : decode cX8_restore 15 = .ok (.aaload, 1) := by decide +kernel
theorem dX8_restore_16 : decode cX8_restore 16 = .ok (.ifnonnull 6, 3) := by decide +kernel
theorem dX8_restore_19 : decode cX8_restore 19 = .ok (.bipush (-3), 2) := by decide +kernel
theorem dX8_restore_21 : decode cX8_restore 21 = .ok (.ireturn, 1) := by decide +kernel
theorem dX8_restore_22 : decode cX8_restore 22 = .ok (.aload_n 0, 1) := by decide +kernel
theorem dX8_restore_23 : decode cX8_restore 23 = .ok (.getfield 12, 3) := by decide +kernel
theorem dX8_restore_26 : decode cX8_restore 26 = .ok (.aload_n 0, 1) := by decide +kernel
theorem dX8_restore_27 : decode cX8_restore 27 = .ok (.getfield 16, 3) := by decide +kernel
theorem dX8_restore_30 : decode cX8_restore 30 = .ok (.iload_n 1, 1) := by decide +kernel
theorem dX8_restore_31 : decode cX8_restore 31 = .ok (.aaload, 1) := by decide +kernel
theorem dX8_restore_32 : decode cX8_restore 32 = .ok (.invokevirtual 213, 3) := by decide +kernel
theorem dX8_restore_35 : decode cX8_restore 35 = .ok (.iconst 1, 1) := by decide +kernel
theorem dX8_restore_36 : decode cX8_restore 36 = .ok (.ireturn, 1) := by decide +kernel
theorem dX8_told_0 : decode cX8_told 0 = .ok (.iload_n 1, 1) := by decide +kernel
theorem dX8_told_1 : decode cX8_told 1 = .ok (.ifCond .ne 11, 3) := by decide +kernel
theorem dX8_told_4 : decode cX8_told 4 = .ok (.aload_n 0, 1) := by decide +kernel
theorem dX8_told_5 : decode cX8_told 5 = .ok (.getfield 23, 3) := by decide +kernel
theorem dX8_told_8 : decode cX8_told 8 = .ok (.getfield 137, 3) := by decide +kernel
theorem dX8_told_11 : decode cX8_told 11 = .ok (.ireturn, 1) := by decide +kernel
theorem dX8_told_12 : decode cX8_told 12 = .ok (.iload_n 1, 1) := by decide +kernel
theorem dX8_told_13 : decode cX8_told 13 = .ok (.iconst 1, 1) := by decide +kernel
theorem dX8_told_14 : decode cX8_told 14 = .ok (.if_icmp .ne 11, 3) := by decide +kernel
theorem dX8_told_17 : decode cX8_told 17 = .ok (.aload_n 0, 1) := by decide +kernel
theorem dX8_told_18 : decode cX8_told 18 = .ok (.getfield 12, 3) := by decide +kernel
theorem dX8_told_21 : decode cX8_told 21 = .ok (.invokevirtual 217, 3) := by decide +kernel
theorem dX8_told_24 : decode cX8_told 24 = .ok (.ireturn, 1) := by decide +kernel
theorem dX8_told_25 : decode cX8_told 25 = .ok (.iload_n 1, 1) := by decide +kernel
theorem dX8_told_26 : decode cX8_told 26 = .ok (.bipush 10, 2) := by decide +kernel
theorem dX8_told_28 : decode cX8_told 28 = .ok (.if_icmp .lt 29, 3) := by decide +kernel
theorem dX8_told_31 : decode cX8_told 31 = .ok (.iload_n 1, 1) := by decide +kernel
theorem dX8_told_32 : decode cX8_told 32 = .ok (.bipush 10, 2) := by decide +kernel
theorem dX8_told_34 : decode cX8_told 34 = .ok (.isub, 1) := by decide +kernel
theorem dX8_told_35 : decode cX8_told 35 = .ok (.invokestatic 64, 3) := by decide +kernel
theorem dX8_told_38 : decode cX8_told 38 = .ok (.ifCond .eq 19, 3) := by decide +kernel
theorem dX8_told_41 : decode cX8_told 41 = .ok (.aload_n 0, 1) := by decide +kernel
theorem dX8_told_42 : decode cX8_told 42 = .ok (.getfield 12, 3) := by decide +kernel
theorem dX8_told_45 : decode cX8_told 45 = .ok (.getfield 71, 3) := by decide +kernel
theorem dX8_told_48 : decode cX8_told 48 = .ok (.iload_n 1, 1) := by decide +kernel
theorem dX8_told_49 : decode cX8_told 49 = .ok (.bipush 10, 2) := by decide +kernel
theorem dX8_told_51 : decode cX8_told 51 = .ok (.isub, 1) := by decide +kernel
theorem dX8_told_52 : decode cX8_told 52 = .ok (.aaload, 1) := by decide +kernel
theorem dX8_told_53 : decode cX8_told 53 = .ok (.getfield 156, 3) := by decide +kernel
theorem dX8_told_56 : decode cX8_told 56 = .ok (.ireturn, 1) := by decide +kernel
theorem dX8_told_57 : decode cX8_told 57 = .ok (.iload_n 1, 1) := by decide +kernel
theorem dX8_told_58 : decode cX8_told 58 = .ok (.bipush 20, 2) := by decide +kernel
theorem dX8_told_60 : decode cX8_told 60 = .ok (.if_icmp .lt 30, 3) := by decide +kernel
theorem dX8_told_63 : decode cX8_told 63 = .ok (.iload_n 1, 1) := by decide +kernel
theorem dX8_told_64 : decode cX8_told 64 = .ok (.bipush 20, 2) := by decide +kernel
theorem dX8_told_66 : decode cX8_told 66 = .ok (.isub, 1) := by decide +kernel
theorem dX8_told_67 : decode cX8_told 67 = .ok (.invokestatic 64, 3) := by decide +kernel
theorem dX8_told_70 : decode cX8_told 70 = .ok (.ifCond .eq 20, 3) := by decide +kernel
theorem dX8_told_73 : decode cX8_told 73 = .ok (.aload_n 0, 1) := by decide +kernel
theorem dX8_told_74 : decode cX8_told 74 = .ok (.aload_n 0, 1) := by decide +kernel
theorem dX8_told_75 : decode cX8_told 75 = .ok (.getfield 12, 3) := by decide +kernel
theorem dX8_told_78 : decode cX8_told 78 = .ok (.getfield 71, 3) := by decide +kernel
theorem dX8_told_81 : decode cX8_told 81 = .ok (.iload_n 1, 1) := by decide +kernel
theorem dX8_told_82 : decode cX8_told 82 = .ok (.bipush 20, 2) := by decide +kernel
theorem dX8_told_84 : decode cX8_told 84 = .ok (.isub, 1) := by decide +kernel
theorem dX8_told_85 : decode cX8_told 85 = .ok (.aaload, 1) := by decide +kernel
theorem dX8_told_86 : decode cX8_told 86 = .ok (.invokevirtual 220, 3) := by decide +kernel
theorem dX8_told_89 : decode cX8_told 89 = .ok (.ireturn, 1) := by decide +kernel
theorem dX8_told_90 : decode cX8_told 90 = .ok (.bipush (-2), 2) := by decide +kernel
theorem dX8_told_92 : decode cX8_told 92 = .ok (.ireturn, 1) := by decide +kernel
theorem dX8_isRow_0 : decode cX8_isRow 0 = .ok (.iload_n 1, 1) := by decide +kernel
theorem dX8_isRow_1 : decode cX8_isRow 1 = .ok (.invokestatic 64, 3) := by decide +kernel
theorem dX8_isRow_4 : decode cX8_isRow 4 = .ok (.ifCond .eq 27, 3) := by decide +kernel
theorem dX8_isRow_7 : decode cX8_isRow 7 = .ok (.iload_n 2, 1) := by decide +kernel
theorem dX8_isRow_8 : decode cX8_isRow 8 = .ok (.ifCond .lt 23, 3) := by decide +kernel
theorem dX8_isRow_11 : decode cX8_isRow 11 = .ok (.iload_n 2, 1) := by decide +kernel
theorem dX8_isRow_12 : decode cX8_isRow 12 = .ok (.aload_n 0, 1) := by decide +kernel
theorem dX8_isRow_13 : decode cX8_isRow 13 = .ok (.getfield 12, 3) := by decide +kernel
theorem dX8_isRow_16 : decode cX8_isRow 16 = .ok (.getfield 71, 3) := by decide +kernel
theorem dX8_isRow_19 : decode cX8_isRow 19 = .ok (.iload_n 1, 1) := by decide +kernel
theorem dX8_isRow_20 : decode cX8_isRow 20 = .ok (.aaload, 1) := by decide +kernel
theorem dX8_isRow_21 : decode cX8_isRow 21 = .ok (.getfield 156, 3) := by decide +kernel
theorem dX8_isRow_24 : decode cX8_isRow 24 = .ok (.if_icmp .ge 7, 3) := by decide +kernel
theorem dX8_isRow_27 : decode cX8_isRow 27 = .ok (.iconst 1, 1) := by decide +kernel
theorem dX8_isRow_28 : decode cX8_isRow 28 = .ok (.goto 4, 3) := by decide +kernel
theorem dX8_isRow_31 : decode cX8_isRow 31 = .ok (.iconst 0, 1) := by decide +kernel
theorem dX8_isRow_32 : decode cX8_isRow 32 = .ok (.ireturn, 1) := by decide +kernel
theorem dX8_isPlace_0 : decode cX8_isPlace 0 = .ok (.iload_n 1, 1) := by decide +kernel
theorem dX8_isPlace_1 : decode cX8_isPlace 1 = .ok (.ifCond .lt 18, 3) := by decide +kernel
theorem dX8_isPlace_4 : decode cX8_isPlace 4 = .ok (.iload_n 1, 1) := by decide +kernel
theorem dX8_isPlace_5 : decode cX8_isPlace 5 = .ok (.aload_n 0, 1) := by decide +kernel
theorem dX8_isPlace_6 : decode cX8_isPlace 6 = .ok (.getfield 23, 3) := by decide +kernel
theorem dX8_isPlace_9 : decode cX8_isPlace 9 = .ok (.getfield 137, 3) := by decide +kernel
theorem dX8_isPlace_12 : decode cX8_isPlace 12 = .ok (.if_icmp .ge 7, 3) := by decide +kernel
theorem dX8_isPlace_15 : decode cX8_isPlace 15 = .ok (.iconst 1, 1) := by decide +kernel
theorem dX8_isPlace_16 : decode cX8_isPlace 16 = .ok (.goto 4, 3) := by decide +kernel
theorem dX8_isPlace_19 : decode cX8_isPlace 19 = .ok (.iconst 0, 1) := by decide +kernel
theorem dX8_isPlace_20 : decode cX8_isPlace 20 = .ok (.ireturn, 1) := by decide +kernel
theorem dX8_isBlock_0 : decode cX8_isBlock 0 = .ok (.iload_n 0, 1) := by decide +kernel
theorem dX8_isBlock_1 : decode cX8_isBlock 1 = .ok (.ifCond .lt 13, 3) := by decide +kernel
theorem dX8_isBlock_4 : decode cX8_isBlock 4 = .ok (.iload_n 0, 1) := by decide +kernel
theorem dX8_isBlock_5 : decode cX8_isBlock 5 = .ok (.bipush 6, 2) := by decide +kernel
theorem dX8_isBlock_7 : decode cX8_isBlock 7 = .ok (.if_icmp .ge 7, 3) := by decide +kernel
theorem dX8_isBlock_10 : decode cX8_isBlock 10 = .ok (.iconst 1, 1) := by decide +kernel
theorem dX8_isBlock_11 : decode cX8_isBlock 11 = .ok (.goto 4, 3) := by decide +kernel
theorem dX8_isBlock_14 : decode cX8_isBlock 14 = .ok (.iconst 0, 1) := by decide +kernel
theorem dX8_isBlock_15 : decode cX8_isBlock 15 = .ok (.ireturn, 1) := by decide +kernel
theorem dX8_isColumn_0 : decode cX8_isColumn 0 = .ok (.iload_n 0, 1) := by decide +kernel
theorem dX8_isColumn_1 : decode cX8_isColumn 1 = .ok (.ifCond .lt 12, 3) := by decide +kernel
theorem dX8_isColumn_4 : decode cX8_isColumn 4 = .ok (.iload_n 0, 1) := by decide +kernel
theorem dX8_isColumn_5 : decode cX8_isColumn 5 = .ok (.iconst 4, 1) := by decide +kernel
theorem dX8_isColumn_6 : decode cX8_isColumn 6 = .ok (.if_icmp .ge 7, 3) := by decide +kernel
theorem dX8_isColumn_9 : decode cX8_isColumn 9 = .ok (.iconst 1, 1) := by decide +kernel
theorem dX8_isColumn_10 : decode cX8_isColumn 10 = .ok (.goto 4, 3) := by decide +kernel
theorem dX8_isColumn_13 : decode cX8_isColumn 13 = .ok (.iconst 0, 1) := by decide +kernel
theorem dX8_isColumn_14 : decode cX8_isColumn 14 = .ok (.ireturn, 1) := by decide +kernel
theorem dX8_isImage_0 : decode cX8_isImage 0 = .ok (.iload_n 0, 1) := by decide +kernel
theorem dX8_isImage_1 : decode cX8_isImage 1 = .ok (.ifCond .lt 12, 3) := by decide +kernel
theorem dX8_isImage_4 : decode cX8_isImage 4 = .ok (.iload_n 0, 1) := by decide +kernel
theorem dX8_isImage_5 : decode cX8_isImage 5 = .ok (.iconst 2, 1) := by decide +kernel
theorem dX8_isImage_6 : decode cX8_isImage 6 = .ok (.if_icmp .ge 7, 3) := by decide +kernel
theorem dX8_isImage_9 : decode cX8_isImage 9 = .ok (.iconst 1, 1) := by decide +kernel
theorem dX8_isImage_10 : decode cX8_isImage 10 = .ok (.goto 4, 3) := by decide +kernel
theorem dX8_isImage_13 : decode cX8_isImage 13 = .ok (.iconst 0, 1) := by decide +kernel
theorem dX8_isImage_14 : decode cX8_isImage 14 = .ok (.ireturn, 1) := by decide +kernel
theorem dX8_isEntry_0 : decode cX8_isEntry 0 = .ok (.iload_n 0, 1) := by decide +kernel
theorem dX8_isEntry_1 : decode cX8_isEntry 1 = .ok (.sipush (-999), 3) := by decide +kernel
theorem dX8_isEntry_4 : decode cX8_isEntry 4 = .ok (.if_icmp .lt 14, 3) := by decide +kernel
theorem dX8_isEntry_7 : decode cX8_isEntry 7 = .ok (.iload_n 0, 1) := by decide +kernel
theorem dX8_isEntry_8 : decode cX8_isEntry 8 = .ok (.sipush 1000, 3) := by decide +kernel
theorem dX8_isEntry_11 : decode cX8_isEntry 11 = .ok (.if_icmp .gt 7, 3) := by decide +kernel
theorem dX8_isEntry_14 : decode cX8_isEntry 14 = .ok (.iconst 1, 1) := by decide +kernel
theorem dX8_isEntry_15 : decode cX8_isEntry 15 = .ok (.goto 4, 3) := by decide +kernel
theorem dX8_isEntry_18 : decode cX8_isEntry 18 = .ok (.iconst 0, 1) := by decide +kernel
theorem dX8_isEntry_19 : decode cX8_isEntry 19 = .ok (.ireturn, 1) := by decide +kernel
theorem dX8_chancesIn_0 : decode cX8_chancesIn 0 = .ok (.aload_n 1, 1) := by decide +kernel
theorem dX8_chancesIn_1 : decode cX8_chancesIn 1 = .ok (.getfield 156, 3) := by decide +kernel
theorem dX8_chancesIn_4 : decode cX8_chancesIn 4 = .ok (.ifCond .ne 5, 3) := by decide +kernel
theorem dX8_chancesIn_7 : decode cX8_chancesIn 7 = .ok (.iconst 0, 1) := by decide +kernel
theorem dX8_chancesIn_8 : decode cX8_chancesIn 8 = .ok (.ireturn, 1) := by decide +kernel
theorem dX8_chancesIn_9 : decode cX8_chancesIn 9 = .ok (.aload_n 0, 1) := by decide +kernel
theorem dX8_chancesIn_10 : decode cX8_chancesIn 10 = .ok (.getfield 23, 3) := by decide +kernel
theorem dX8_chancesIn_13 : decode cX8_chancesIn 13 = .ok (.invokevirtual 223, 3) := by decide +kernel
theorem dX8_chancesIn_16 : decode cX8_chancesIn 16 = .ok (.istore_n 2, 1) := by decide +kernel
theorem dX8_chancesIn_17 : decode cX8_chancesIn 17 = .ok (.iload_n 2, 1) := by decide +kernel
theorem dX8_chancesIn_18 : decode cX8_chancesIn 18 = .ok (.ldc 121, 2) := by decide +kernel
theorem dX8_chancesIn_20 : decode cX8_chancesIn 20 = .ok (.if_icmp .eq 27, 3) := by decide +kernel
theorem dX8_chancesIn_23 : decode cX8_chancesIn 23 = .ok (.aload_n 1, 1) := by decide +kernel
theorem dX8_chancesIn_24 : decode cX8_chancesIn 24 = .ok (.getfield 101, 3) := by decide +kernel
theorem dX8_chancesIn_27 : decode cX8_chancesIn 27 = .ok (.iload_n 2, 1) := by decide +kernel
theorem dX8_chancesIn_28 : decode cX8_chancesIn 28 = .ok (.aaload, 1) := by decide +kernel
theorem dX8_chancesIn_29 : decode cX8_chancesIn 29 = .ok (.getfield 117, 3) := by decide +kernel
theorem dX8_chancesIn_32 : decode cX8_chancesIn 32 = .ok (.ifCond .ne 15, 3) := by decide +kernel
theorem dX8_chancesIn_35 : decode cX8_chancesIn 35 = .ok (.aload_n 0, 1) := by decide +kernel
theorem dX8_chancesIn_36 : decode cX8_chancesIn 36 = .ok (.aload_n 1, 1) := by decide +kernel
theorem dX8_chancesIn_37 : decode cX8_chancesIn 37 = .ok (.getfield 101, 3) := by decide +kernel
theorem dX8_chancesIn_40 : decode cX8_chancesIn 40 = .ok (.iload_n 2, 1) := by decide +kernel
theorem dX8_chancesIn_41 : decode cX8_chancesIn 41 = .ok (.aaload, 1) := by decide +kernel
theorem dX8_chancesIn_42 : decode cX8_chancesIn 42 = .ok (.iload_n 2, 1) := by decide +kernel
theorem dX8_chancesIn_43 : decode cX8_chancesIn 43 = .ok (.invokevirtual 226, 3) := by decide +kernel
theorem dX8_chancesIn_46 : decode cX8_chancesIn 46 = .ok (.ireturn, 1) := by decide +kernel
theorem dX8_chancesIn_47 : decode cX8_chancesIn 47 = .ok (.aload_n 0, 1) := by decide +kernel
theorem dX8_chancesIn_48 : decode cX8_chancesIn 48 = .ok (.getfield 39, 3) := by decide +kernel
theorem dX8_chancesIn_51 : decode cX8_chancesIn 51 = .ok (.aload_n 1, 1) := by decide +kernel
theorem dX8_chancesIn_52 : decode cX8_chancesIn 52 = .ok (.invokevirtual 163, 3) := by decide +kernel
theorem dX8_chancesIn_55 : decode cX8_chancesIn 55 = .ok (.aload_n 0, 1) := by decide +kernel
theorem dX8_chancesIn_56 : decode cX8_chancesIn 56 = .ok (.getfield 39, 3) := by decide +kernel
theorem dX8_chancesIn_59 : decode cX8_chancesIn 59 = .ok (.getfield 166, 3) := by decide +kernel
theorem dX8_chancesIn_62 : decode cX8_chancesIn 62 = .ok (.iconst 0, 1) := by decide +kernel
theorem dX8_chancesIn_63 : decode cX8_chancesIn 63 = .ok (.iaload, 1) := by decide +kernel
theorem dX8_chancesIn_64 : decode cX8_chancesIn 64 = .ok (.ireturn, 1) := by decide +kernel
theorem dX8_chancesByList_0 : decode cX8_chancesByList 0 = .ok (.iconst 0, 1) := by decide +kernel
theorem dX8_chancesByList_1 : decode cX8_chancesByList 1 = .ok (.istore_n 3, 1) := by decide +kernel
theorem dX8_chancesByList_2 : decode cX8_chancesByList 2 = .ok (.iconst 0, 1) := by decide +kernel
theorem dX8_chancesByList_3 : decode cX8_chancesByList 3 = .ok (.istore 4, 2) := by decide +kernel
theorem dX8_chancesByList_5 : decode cX8_chancesByList 5 = .ok (.iload 4, 2) := by decide +kernel
theorem dX8_chancesByList_7 : decode cX8_chancesByList 7 = .ok (.aload_n 1, 1) := by decide +kernel
theorem dX8_chancesByList_8 : decode cX8_chancesByList 8 = .ok (.getfield 122, 3) := by decide +kernel
theorem dX8_chancesByList_11 : decode cX8_chancesByList 11 = .ok (.if_icmp .ge 49, 3) := by decide +kernel
theorem dX8_chancesByList_14 : decode cX8_chancesByList 14 = .ok (.aload_n 1, 1) := by decide +kernel
theorem dX8_chancesByList_15 : decode cX8_chancesByList 15 = .ok (.getfield 132, 3) := by decide +kernel
theorem dX8_chancesByList_18 : decode cX8_chancesByList 18 = .ok (.iload 4, 2) := by decide +kernel
theorem dX8_chancesByList_20 : decode cX8_chancesByList 20 = .ok (.iaload, 1) := by decide +kernel
theorem dX8_chancesByList_21 : decode cX8_chancesByList 21 = .ok (.ifCond .le 33, 3) := by decide +kernel
theorem dX8_chancesByList_24 : decode cX8_chancesByList 24 = .ok (.aload_n 0, 1) := by decide +kernel
theorem dX8_chancesByList_25 : decode cX8_chancesByList 25 = .ok (.getfield 43, 3) := by decide +kernel
theorem dX8_chancesByList_28 : decode cX8_chancesByList 28 = .ok (.iload_n 2, 1) := by decide +kernel
theorem dX8_chancesByList_29 : decode cX8_chancesByList 29 = .ok (.aload_n 1, 1) := by decide +kernel
theorem dX8_chancesByList_30 : decode cX8_chancesByList 30 = .ok (.getfield 129, 3) := by decide +kernel
theorem dX8_chancesByList_33 : decode cX8_chancesByList 33 = .ok (.iload 4, 2) := by decide +kernel
theorem dX8_chancesByList_35 : decode cX8_chancesByList 35 = .ok (.iaload, 1) := by decide +kernel
theorem dX8_chancesByList_36 : decode cX8_chancesByList 36 = .ok (.iastore, 1) := by decide +kernel
theorem dX8_chancesByList_37 : decode cX8_chancesByList 37 = .ok (.iload_n 3, 1) := by decide +kernel
theorem dX8_chancesByList_38 : decode cX8_chancesByList 38 = .ok (.aload_n 0, 1) := by decide +kernel
theorem dX8_chancesByList_39 : decode cX8_chancesByList 39 = .ok (.getfield 32, 3) := by decide +kernel
theorem dX8_chancesByList_42 : decode cX8_chancesByList 42 = .ok (.aload_n 0, 1) := by decide +kernel
theorem dX8_chancesByList_43 : decode cX8_chancesByList 43 = .ok (.getfield 43, 3) := by decide +kernel
theorem dX8_chancesByList_46 : decode cX8_chancesByList 46 = .ok (.invokevirtual 148, 3) := by decide +kernel
theorem dX8_chancesByList_49 : decode cX8_chancesByList 49 = .ok (.invokestatic 230, 3) := by decide +kernel
theorem dX8_chancesByList_52 : decode cX8_chancesByList 52 = .ok (.ior, 1) := by decide +kernel
theorem dX8_chancesByList_53 : decode cX8_chancesByList 53 = .ok (.istore_n 3, 1) := by decide +kernel
theorem dX8_chancesByList_54 : decode cX8_chancesByList 54 = .ok (.iinc 4 1, 3) := by decide +kernel
theorem dX8_chancesByList_57 : decode cX8_chancesByList 57 = .ok (.goto (-52), 3) := by decide +kernel
theorem dX8_chancesByList_60 : decode cX8_chancesByList 60 = .ok (.aload_n 1, 1) := by decide +kernel
theorem dX8_chancesByList_61 : decode cX8_chancesByList 61 = .ok (.getfield 114, 3) := by decide +kernel
theorem dX8_chancesByList_64 : decode cX8_chancesByList 64 = .ok (.ifCond .le 29, 3) := by decide +kernel
theorem dX8_chancesByList_67 : decode cX8_chancesByList 67 = .ok (.aload_n 0, 1) := by decide +kernel
theorem dX8_chancesByList_68 : decode cX8_chancesByList 68 = .ok (.getfield 43, 3) := by decide +kernel
theorem dX8_chancesByList_71 : decode cX8_chancesByList 71 = .ok (.iload_n 2, 1) := by decide +kernel
theorem dX8_chancesByList_72 : decode cX8_chancesByList 72 = .ok (.sipush 1000, 3) := by decide +kernel
theorem dX8_chancesByList_75 : decode cX8_chancesByList 75 = .ok (.iastore, 1) := by decide +kernel
theorem dX8_chancesByList_76 : decode cX8_chancesByList 76 = .ok (.iload_n 3, 1) := by decide +kernel
theorem dX8_chancesByList_77 : decode cX8_chancesByList 77 = .ok (.aload_n 0, 1) := by decide +kernel
theorem dX8_chancesByList_78 : decode cX8_chancesByList 78 = .ok (.getfield 32, 3) := by decide +kernel
theorem dX8_chancesByList_81 : decode cX8_chancesByList 81 = .ok (.aload_n 0, 1) := by decide +kernel
theorem dX8_chancesByList_82 : decode cX8_chancesByList 82 = .ok (.getfield 43, 3) := by decide +kernel
theorem dX8_chancesByList_85 : decode cX8_chancesByList 85 = .ok (.invokevirtual 148, 3) := by decide +kernel
theorem dX8_chancesByList_88 : decode cX8_chancesByList 88 = .ok (.invokestatic 230, 3) := by decide +kernel
theorem dX8_chancesByList_91 : decode cX8_chancesByList 91 = .ok (.ior, 1) := by decide +kernel
theorem dX8_chancesByList_92 : decode cX8_chancesByList 92 = .ok (.istore_n 3, 1) := by decide +kernel
theorem dX8_chancesByList_93 : decode cX8_chancesByList 93 = .ok (.iload_n 3, 1) := by decide +kernel
theorem dX8_chancesByList_94 : decode cX8_chancesByList 94 = .ok (.ireturn, 1) := by decide +kernel
theorem dX8_weighBlocks_0 : decode cX8_weighBlocks 0 = .ok (.iconst 0, 1) := by decide +kernel
theorem dX8_weighBlocks_1 : decode cX8_weighBlocks 1 = .ok (.istore_n 1, 1) := by decide +kernel
theorem dX8_weighBlocks_2 : decode cX8_weighBlocks 2 = .ok (.iload_n 1, 1) := by decide +kernel
theorem dX8_weighBlocks_3 : decode cX8_weighBlocks 3 = .ok (.bipush 6, 2) := by decide +kernel
theorem dX8_weighBlocks_5 : decode cX8_weighBlocks 5 = .ok (.if_icmp .ge 28, 3) := by decide +kernel
theorem dX8_weighBlocks_8 : decode cX8_weighBlocks 8 = .ok (.aload_n 0, 1) := by decide +kernel
theorem dX8_weighBlocks_9 : decode cX8_weighBlocks 9 = .ok (.getfield 47, 3) := by decide +kernel
theorem dX8_weighBlocks_12 : decode cX8_weighBlocks 12 = .ok (.iload_n 1, 1) := by decide +kernel
theorem dX8_weighBlocks_13 : decode cX8_weighBlocks 13 = .ok (.aload_n 0, 1) := by decide +kernel
theorem dX8_weighBlocks_14 : decode cX8_weighBlocks 14 = .ok (.aload_n 0, 1) := by decide +kernel
theorem dX8_weighBlocks_15 : decode cX8_weighBlocks 15 = .ok (.getfield 12, 3) := by decide +kernel
theorem dX8_weighBlocks_18 : decode cX8_weighBlocks 18 = .ok (.getfield 71, 3) := by decide +kernel
theorem dX8_weighBlocks_21 : decode cX8_weighBlocks 21 = .ok (.iload_n 1, 1) := by decide +kernel
theorem dX8_weighBlocks_22 : decode cX8_weighBlocks 22 = .ok (.aaload, 1) := by decide +kernel
theorem dX8_weighBlocks_23 : decode cX8_weighBlocks 23 = .ok (.invokevirtual 175, 3) := by decide +kernel
theorem dX8_weighBlocks_26 : decode cX8_weighBlocks 26 = .ok (.iastore, 1) := by decide +kernel
theorem dX8_weighBlocks_27 : decode cX8_weighBlocks 27 = .ok (.iinc 1 1, 3) := by decide +kernel
theorem dX8_weighBlocks_30 : decode cX8_weighBlocks 30 = .ok (.goto (-28), 3) := by decide +kernel
theorem dX8_weighBlocks_33 : decode cX8_weighBlocks 33 = .ok (.return_, 1) := by decide +kernel
theorem dX8_rulingOf_0 : decode cX8_rulingOf 0 = .ok (.iload_n 0, 1) := by decide +kernel
theorem dX8_rulingOf_1 : decode cX8_rulingOf 1 = .ok (.iconst 1, 1) := by decide +kernel
theorem dX8_rulingOf_2 : decode cX8_rulingOf 2 = .ok (.iand, 1) := by decide +kernel
theorem dX8_rulingOf_3 : decode cX8_rulingOf 3 = .ok (.ifCond .ne 5, 3) := by decide +kernel
theorem dX8_rulingOf_6 : decode cX8_rulingOf 6 = .ok (.iconst 0, 1) := by decide +kernel
theorem dX8_rulingOf_7 : decode cX8_rulingOf 7 = .ok (.ireturn, 1) := by decide +kernel
theorem dX8_rulingOf_8 : decode cX8_rulingOf 8 = .ok (.iload_n 0, 1) := by decide +kernel
theorem dX8_rulingOf_9 : decode cX8_rulingOf 9 = .ok (.iconst 1, 1) := by decide +kernel
theorem dX8_rulingOf_10 : decode cX8_rulingOf 10 = .ok (.if_icmp .ne 7, 3) := by decide +kernel
theorem dX8_rulingOf_13 : decode cX8_rulingOf 13 = .ok (.iconst 1, 1) := by decide +kernel
theorem dX8_rulingOf_14 : decode cX8_rulingOf 14 = .ok (.goto 4, 3) := by decide +kernel
theorem dX8_rulingOf_17 : decode cX8_rulingOf 17 = .ok (.iconst 2, 1) := by decide +kernel
theorem dX8_rulingOf_18 : decode cX8_rulingOf 18 = .ok (.ireturn, 1) := by decide +kernel
theorem dX8_blocksRuled_0 : decode cX8_blocksRuled 0 = .ok (.iconst 0, 1) := by decide +kernel
theorem dX8_blocksRuled_1 : decode cX8_blocksRuled 1 = .ok (.istore_n 2, 1) := by decide +kernel
theorem dX8_blocksRuled_2 : decode cX8_blocksRuled 2 = .ok (.iconst 0, 1) := by decide +kernel
theorem dX8_blocksRuled_3 : decode cX8_blocksRuled 3 = .ok (.istore_n 3, 1) := by decide +kernel
theorem dX8_blocksRuled_4 : decode cX8_blocksRuled 4 = .ok (.iload_n 3, 1) := by decide +kernel
theorem dX8_blocksRuled_5 : decode cX8_blocksRuled 5 = .ok (.bipush 6, 2) := by decide +kernel
theorem dX8_blocksRuled_7 : decode cX8_blocksRuled 7 = .ok (.if_icmp .ge 28, 3) := by decide +kernel
theorem dX8_blocksRuled_10 : decode cX8_blocksRuled 10 = .ok (.aload_n 0, 1) := by decide +kernel
theorem dX8_blocksRuled_11 : decode cX8_blocksRuled 11 = .ok (.getfield 47, 3) := by decide +kernel
theorem dX8_blocksRuled_14 : decode cX8_blocksRuled 14 = .ok (.iload_n 3, 1) := by decide +kernel
theorem dX8_blocksRuled_15 : decode cX8_blocksRuled 15 = .ok (.iaload, 1) := by decide +kernel
theorem dX8_blocksRuled_16 : decode cX8_blocksRuled 16 = .ok (.invokestatic 179, 3) := by decide +kernel
theorem dX8_blocksRuled_19 : decode cX8_blocksRuled 19 = .ok (.iload_n 1, 1) := by decide +kernel
theorem dX8_blocksRuled_20 : decode cX8_blocksRuled 20 = .ok (.if_icmp .ne 9, 3) := by decide +kernel
theorem dX8_blocksRuled_23 : decode cX8_blocksRuled 23 = .ok (.iload_n 2, 1) := by decide +kernel
theorem dX8_blocksRuled_24 : decode cX8_blocksRuled 24 = .ok (.iconst 1, 1) := by decide +kernel
theorem dX8_blocksRuled_25 : decode cX8_blocksRuled 25 = .ok (.iload_n 3, 1) := by decide +kernel
theorem dX8_blocksRuled_26 : decode cX8_blocksRuled 26 = .ok (.ishl, 1) := by decide +kernel
theorem dX8_blocksRuled_27 : decode cX8_blocksRuled 27 = .ok (.ior, 1) := by decide +kernel
theorem dX8_blocksRuled_28 : decode cX8_blocksRuled 28 = .ok (.istore_n 2, 1) := by decide +kernel
theorem dX8_blocksRuled_29 : decode cX8_blocksRuled 29 = .ok (.iinc 3 1, 3) := by decide +kernel
theorem dX8_blocksRuled_32 : decode cX8_blocksRuled 32 = .ok (.goto (-28), 3) := by decide +kernel
theorem dX8_blocksRuled_35 : decode cX8_blocksRuled 35 = .ok (.iload_n 2, 1) := by decide +kernel
theorem dX8_blocksRuled_36 : decode cX8_blocksRuled 36 = .ok (.ireturn, 1) := by decide +kernel
theorem dX8_countScannedRows_0 : decode cX8_countScannedRows 0 = .ok (.iconst 0, 1) := by decide +kernel
theorem dX8_countScannedRows_1 : decode cX8_countScannedRows 1 = .ok (.istore_n 1, 1) := by decide +kernel
theorem dX8_countScannedRows_2 : decode cX8_countScannedRows 2 = .ok (.iconst 0, 1) := by decide +kernel
theorem dX8_countScannedRows_3 : decode cX8_countScannedRows 3 = .ok (.istore_n 2, 1) := by decide +kernel
theorem dX8_countScannedRows_4 : decode cX8_countScannedRows 4 = .ok (.iload_n 2, 1) := by decide +kernel
theorem dX8_countScannedRows_5 : decode cX8_countScannedRows 5 = .ok (.bipush 6, 2) := by decide +kernel
theorem dX8_countScannedRows_7 : decode cX8_countScannedRows 7 = .ok (.if_icmp .ge 37, 3) := by decide +kernel
theorem dX8_countScannedRows_10 : decode cX8_countScannedRows 10 = .ok (.aload_n 0, 1) := by decide +kernel
theorem dX8_countScannedRows_11 : decode cX8_countScannedRows 11 = .ok (.getfield 47, 3) := by decide +kernel
theorem dX8_countScannedRows_14 : decode cX8_countScannedRows 14 = .ok (.iload_n 2, 1) := by decide +kernel
theorem dX8_countScannedRows_15 : decode cX8_countScannedRows 15 = .ok (.iaload, 1) := by decide +kernel
theorem dX8_countScannedRows_16 : decode cX8_countScannedRows 16 = .ok (.invokestatic 179, 3) := by decide +kernel
theorem dX8_countScannedRows_19 : decode cX8_countScannedRows 19 = .ok (.iconst 2, 1) := by decide +kernel
theorem dX8_countScannedRows_20 : decode cX8_countScannedRows 20 = .ok (.if_icmp .ne 18, 3) := by decide +kernel
theorem dX8_countScannedRows_23 : decode cX8_countScannedRows 23 = .ok (.iload_n 1, 1) := by decide +kernel
theorem dX8_countScannedRows_24 : decode cX8_countScannedRows 24 = .ok (.aload_n 0, 1) := by decide +kernel
theorem dX8_countScannedRows_25 : decode cX8_countScannedRows 25 = .ok (.getfield 12, 3) := by decide +kernel
theorem dX8_countScannedRows_28 : decode cX8_countScannedRows 28 = .ok (.getfield 71, 3) := by decide +kernel
theorem dX8_countScannedRows_31 : decode cX8_countScannedRows 31 = .ok (.iload_n 2, 1) := by decide +kernel
theorem dX8_countScannedRows_32 : decode cX8_countScannedRows 32 = .ok (.aaload, 1) := by decide +kernel
theorem dX8_countScannedRows_33 : decode cX8_countScannedRows 33 = .ok (.getfield 156, 3) := by decide +kernel
theorem dX8_countScannedRows_36 : decode cX8_countScannedRows 36 = .ok (.iadd, 1) := by decide +kernel
theorem dX8_countScannedRows_37 : decode cX8_countScannedRows 37 = .ok (.istore_n 1, 1) := by decide +kernel
theorem dX8_countScannedRows_38 : decode cX8_countScannedRows 38 = .ok (.iinc 2 1, 3) := by decide +kernel
theorem dX8_countScannedRows_41 : decode cX8_countScannedRows 41 = .ok (.goto (-37), 3) := by decide +kernel
theorem dX8_countScannedRows_44 : decode cX8_countScannedRows 44 = .ok (.iload_n 1, 1) := by decide +kernel
theorem dX8_countScannedRows_45 : decode cX8_countScannedRows 45 = .ok (.ireturn, 1) := by decide +kernel
theorem dX8_countRowsToRead_0 : decode cX8_countRowsToRead 0 = .ok (.iconst 0, 1) := by decide +kernel
theorem dX8_countRowsToRead_1 : decode cX8_countRowsToRead 1 = .ok (.istore_n 2, 1) := by decide +kernel
theorem dX8_countRowsToRead_2 : decode cX8_countRowsToRead 2 = .ok (.iconst 0, 1) := by decide +kernel
theorem dX8_countRowsToRead_3 : decode cX8_countRowsToRead 3 = .ok (.istore_n 3, 1) := by decide +kernel
theorem dX8_countRowsToRead_4 : decode cX8_countRowsToRead 4 = .ok (.iload_n 3, 1) := by decide +kernel
theorem dX8_countRowsToRead_5 : decode cX8_countRowsToRead 5 = .ok (.bipush 6, 2) := by decide +kernel
theorem dX8_countRowsToRead_7 : decode cX8_countRowsToRead 7 = .ok (.if_icmp .ge 63, 3) := by decide +kernel
theorem dX8_countRowsToRead_10 : decode cX8_countRowsToRead 10 = .ok (.aload_n 0, 1) := by decide +kernel
theorem dX8_countRowsToRead_11 : decode cX8_countRowsToRead 11 = .ok (.getfield 47, 3) := by decide +kernel
theorem dX8_countRowsToRead_14 : decode cX8_countRowsToRead 14 = .ok (.iload_n 3, 1) := by decide +kernel
theorem dX8_countRowsToRead_15 : decode cX8_countRowsToRead 15 = .ok (.iaload, 1) := by decide +kernel
theorem dX8_countRowsToRead_16 : decode cX8_countRowsToRead 16 = .ok (.invokestatic 179, 3) := by decide +kernel
theorem dX8_countRowsToRead_19 : decode cX8_countRowsToRead 19 = .ok (.istore 4, 2) := by decide +kernel
theorem dX8_countRowsToRead_21 : decode cX8_countRowsToRead 21 = .ok (.iload 4, 2) := by decide +kernel
theorem dX8_countRowsToRead_23 : decode cX8_countRowsToRead 23 = .ok (.iconst 2, 1) := by decide +kernel
theorem dX8_countRowsToRead_24 : decode cX8_countRowsToRead 24 = .ok (.if_icmp .eq 25, 3) := by decide +kernel
theorem dX8_countRowsToRead_27 : decode cX8_countRowsToRead 27 = .ok (.iload 4, 2) := by decide +kernel
theorem dX8_countRowsToRead_29 : decode cX8_countRowsToRead 29 = .ok (.iconst 1, 1) := by decide +kernel
theorem dX8_countRowsToRead_30 : decode cX8_countRowsToRead 30 = .ok (.if_icmp .ne 34, 3) := by decide +kernel
theorem dX8_countRowsToRead_33 : decode cX8_countRowsToRead 33 = .ok (.aload_n 0, 1) := by decide +kernel
theorem dX8_countRowsToRead_34 : decode cX8_countRowsToRead 34 = .ok (.getfield 12, 3) := by decide +kernel
theorem dX8_countRowsToRead_37 : decode cX8_countRowsToRead 37 = .ok (.getfield 71, 3) := by decide +kernel
theorem dX8_countRowsToRead_40 : decode cX8_countRowsToRead 40 = .ok (.iload_n 3, 1) := by decide +kernel
theorem dX8_countRowsToRead_41 : decode cX8_countRowsToRead 41 = .ok (.aaload, 1) := by decide +kernel
theorem dX8_countRowsToRead_42 : decode cX8_countRowsToRead 42 = .ok (.iload_n 1, 1) := by decide +kernel
theorem dX8_countRowsToRead_43 : decode cX8_countRowsToRead 43 = .ok (.invokevirtual 125, 3) := by decide +kernel
theorem dX8_countRowsToRead_46 : decode cX8_countRowsToRead 46 = .ok (.ifCond .eq 18, 3) := by decide +kernel
theorem dX8_countRowsToRead_49 : decode cX8_countRowsToRead 49 = .ok (.iload_n 2, 1) := by decide +kernel
theorem dX8_countRowsToRead_50 : decode cX8_countRowsToRead 50 = .ok (.aload_n 0, 1) := by decide +kernel
theorem dX8_countRowsToRead_51 : decode cX8_countRowsToRead 51 = .ok (.getfield 12, 3) := by decide +kernel
theorem dX8_countRowsToRead_54 : decode cX8_countRowsToRead 54 = .ok (.getfield 71, 3) := by decide +kernel
theorem dX8_countRowsToRead_57 : decode cX8_countRowsToRead 57 = .ok (.iload_n 3, 1) := by decide +kernel
theorem dX8_countRowsToRead_58 : decode cX8_countRowsToRead 58 = .ok (.aaload, 1) := by decide +kernel
theorem dX8_countRowsToRead_59 : decode cX8_countRowsToRead 59 = .ok (.getfield 156, 3) := by decide +kernel
theorem dX8_countRowsToRead_62 : decode cX8_countRowsToRead 62 = .ok (.iadd, 1) := by decide +kernel
theorem dX8_countRowsToRead_63 : decode cX8_countRowsToRead 63 = .ok (.istore_n 2, 1) := by decide +kernel
theorem dX8_countRowsToRead_64 : decode cX8_countRowsToRead 64 = .ok (.iinc 3 1, 3) := by decide +kernel
theorem dX8_countRowsToRead_67 : decode cX8_countRowsToRead 67 = .ok (.goto (-63), 3) := by decide +kernel
theorem dX8_countRowsToRead_70 : decode cX8_countRowsToRead 70 = .ok (.iload_n 2, 1) := by decide +kernel
theorem dX8_countRowsToRead_71 : decode cX8_countRowsToRead 71 = .ok (.ireturn, 1) := by decide +kernel
theorem dX8_isMatch_0 : decode cX8_isMatch 0 = .ok (.aload_n 0, 1) := by decide +kernel
theorem dX8_isMatch_1 : decode cX8_isMatch 1 = .ok (.getfield 32, 3) := by decide +kernel
theorem dX8_isMatch_4 : decode cX8_isMatch 4 = .ok (.aload_n 1, 1) := by decide +kernel
theorem dX8_isMatch_5 : decode cX8_isMatch 5 = .ok (.invokevirtual 148, 3) := by decide +kernel
theorem dX8_isMatch_8 : decode cX8_isMatch 8 = .ok (.iconst 1, 1) := by decide +kernel
theorem dX8_isMatch_9 : decode cX8_isMatch 9 = .ok (.if_icmp .ne 7, 3) := by decide +kernel
theorem dX8_isMatch_12 : decode cX8_isMatch 12 = .ok (.iconst 1, 1) := by decide +kernel
theorem dX8_isMatch_13 : decode cX8_isMatch 13 = .ok (.goto 4, 3) := by decide +kernel
theorem dX8_isMatch_16 : decode cX8_isMatch 16 = .ok (.iconst 0, 1) := by decide +kernel
theorem dX8_isMatch_17 : decode cX8_isMatch 17 = .ok (.ireturn, 1) := by decide +kernel
theorem dX8_countMatches_0 : decode cX8_countMatches 0 = .ok (.iconst 0, 1) := by decide +kernel
theorem dX8_countMatches_1 : decode cX8_countMatches 1 = .ok (.istore_n 1, 1) := by decide +kernel
theorem dX8_countMatches_2 : decode cX8_countMatches 2 = .ok (.iconst 0, 1) := by decide +kernel
theorem dX8_countMatches_3 : decode cX8_countMatches 3 = .ok (.istore_n 2, 1) := by decide +kernel
theorem dX8_countMatches_4 : decode cX8_countMatches 4 = .ok (.iload_n 2, 1) := by decide +kernel
theorem dX8_countMatches_5 : decode cX8_countMatches 5 = .ok (.bipush 6, 2) := by decide +kernel
theorem dX8_countMatches_7 : decode cX8_countMatches 7 = .ok (.if_icmp .ge 54, 3) := by decide +kernel
theorem dX8_countMatches_10 : decode cX8_countMatches 10 = .ok (.aload_n 0, 1) := by decide +kernel
theorem dX8_countMatches_11 : decode cX8_countMatches 11 = .ok (.getfield 12, 3) := by decide +kernel
theorem dX8_countMatches_14 : decode cX8_countMatches 14 = .ok (.getfield 71, 3) := by decide +kernel
theorem dX8_countMatches_17 : decode cX8_countMatches 17 = .ok (.iload_n 2, 1) := by decide +kernel
theorem dX8_countMatches_18 : decode cX8_countMatches 18 = .ok (.aaload, 1) := by decide +kernel
theorem dX8_countMatches_19 : decode cX8_countMatches 19 = .ok (.astore_n 3, 1) := by decide +kernel
theorem dX8_countMatches_20 : decode cX8_countMatches 20 = .ok (.iconst 0, 1) := by decide +kernel
theorem dX8_countMatches_21 : decode cX8_countMatches 21 = .ok (.istore 4, 2) := by decide +kernel
theorem dX8_countMatches_23 : decode cX8_countMatches 23 = .ok (.iload 4, 2) := by decide +kernel
theorem dX8_countMatches_25 : decode cX8_countMatches 25 = .ok (.aload_n 3, 1) := by decide +kernel
theorem dX8_countMatches_26 : decode cX8_countMatches 26 = .ok (.getfield 156, 3) := by decide +kernel
theorem dX8_countMatches_29 : decode cX8_countMatches 29 = .ok (.if_icmp .ge 26, 3) := by decide +kernel
theorem dX8_countMatches_32 : decode cX8_countMatches 32 = .ok (.aload_n 0, 1) := by decide +kernel
theorem dX8_countMatches_33 : decode cX8_countMatches 33 = .ok (.aload_n 3, 1) := by decide +kernel
theorem dX8_countMatches_34 : decode cX8_countMatches 34 = .ok (.getfield 97, 3) := by decide +kernel
theorem dX8_countMatches_37 : decode cX8_countMatches 37 = .ok (.iload 4, 2) := by decide +kernel
theorem dX8_countMatches_39 : decode cX8_countMatches 39 = .ok (.aaload, 1) := by decide +kernel
theorem dX8_countMatches_40 : decode cX8_countMatches 40 = .ok (.invokevirtual 233, 3) := by decide +kernel
theorem dX8_countMatches_43 : decode cX8_countMatches 43 = .ok (.ifCond .eq 6, 3) := by decide +kernel
theorem dX8_countMatches_46 : decode cX8_countMatches 46 = .ok (.iinc 1 1, 3) := by decide +kernel
theorem dX8_countMatches_49 : decode cX8_countMatches 49 = .ok (.iinc 4 1, 3) := by decide +kernel
theorem dX8_countMatches_52 : decode cX8_countMatches 52 = .ok (.goto (-29), 3) := by decide +kernel
theorem dX8_countMatches_55 : decode cX8_countMatches 55 = .ok (.iinc 2 1, 3) := by decide +kernel
theorem dX8_countMatches_58 : decode cX8_countMatches 58 = .ok (.goto (-54), 3) := by decide +kernel
theorem dX8_countMatches_61 : decode cX8_countMatches 61 = .ok (.iload_n 1, 1) := by decide +kernel
theorem dX8_countMatches_62 : decode cX8_countMatches 62 = .ok (.ireturn, 1) := by decide +kernel
theorem dX8_countUnlikeMatches_0 : decode cX8_countUnlikeMatches 0 = .ok (.aload_n 0, 1) := by decide +kernel
theorem dX8_countUnlikeMatches_1 : decode cX8_countUnlikeMatches 1 = .ok (.getfield 53, 3) := by decide +kernel
theorem dX8_countUnlikeMatches_4 : decode cX8_countUnlikeMatches 4 = .ok (.invokevirtual 237, 3) := by decide +kernel
theorem dX8_countUnlikeMatches_7 : decode cX8_countUnlikeMatches 7 = .ok (.iconst 0, 1) := by decide +kernel
theorem dX8_countUnlikeMatches_8 : decode cX8_countUnlikeMatches 8 = .ok (.istore_n 1, 1) := by decide +kernel
theorem dX8_countUnlikeMatches_9 : decode cX8_countUnlikeMatches 9 = .ok (.iload_n 1, 1) := by decide +kernel
theorem dX8_countUnlikeMatches_10 : decode cX8_countUnlikeMatches 10 = .ok (.bipush 6, 2) := by decide +kernel
theorem dX8_countUnlikeMatches_12 : decode cX8_countUnlikeMatches 12 = .ok (.if_icmp .ge 61, 3) := by decide +kernel
theorem dX8_countUnlikeMatches_15 : decode cX8_countUnlikeMatches 15 = .ok (.aload_n 0, 1) := by decide +kernel
theorem dX8_countUnlikeMatches_16 : decode cX8_countUnlikeMatches 16 = .ok (.getfield 12, 3) := by decide +kernel
theorem dX8_countUnlikeMatches_19 : decode cX8_countUnlikeMatches 19 = .ok (.getfield 71, 3) := by decide +kernel
theorem dX8_countUnlikeMatches_22 : decode cX8_countUnlikeMatches 22 = .ok (.iload_n 1, 1) := by decide +kernel
theorem dX8_countUnlikeMatches_23 : decode cX8_countUnlikeMatches 23 = .ok (.aaload, 1) := by decide +kernel
theorem dX8_countUnlikeMatches_24 : decode cX8_countUnlikeMatches 24 = .ok (.astore_n 2, 1) := by decide +kernel
theorem dX8_countUnlikeMatches_25 : decode cX8_countUnlikeMatches 25 = .ok (.iconst 0, 1) := by decide +kernel
theorem dX8_countUnlikeMatches_26 : decode cX8_countUnlikeMatches 26 = .ok (.istore_n 3, 1) := by decide +kernel
theorem dX8_countUnlikeMatches_27 : decode cX8_countUnlikeMatches 27 = .ok (.iload_n 3, 1) := by decide +kernel
theorem dX8_countUnlikeMatches_28 : decode cX8_countUnlikeMatches 28 = .ok (.aload_n 2, 1) := by decide +kernel
theorem dX8_countUnlikeMatches_29 : decode cX8_countUnlikeMatches 29 = .ok (.getfield 156, 3) := by decide +kernel
theorem dX8_countUnlikeMatches_32 : decode cX8_countUnlikeMatches 32 = .ok (.if_icmp .ge 35, 3) := by decide +kernel
theorem dX8_countUnlikeMatches_35 : decode cX8_countUnlikeMatches 35 = .ok (.aload_n 0, 1) := by decide +kernel
theorem dX8_countUnlikeMatches_36 : decode cX8_countUnlikeMatches 36 = .ok (.aload_n 2, 1) := by decide +kernel
theorem dX8_countUnlikeMatches_37 : decode cX8_countUnlikeMatches 37 = .ok (.getfield 97, 3) := by decide +kernel
theorem dX8_countUnlikeMatches_40 : decode cX8_countUnlikeMatches 40 = .ok (.iload_n 3, 1) := by decide +kernel
theorem dX8_countUnlikeMatches_41 : decode cX8_countUnlikeMatches 41 = .ok (.aaload, 1) := by decide +kernel
theorem dX8_countUnlikeMatches_42 : decode cX8_countUnlikeMatches 42 = .ok (.invokevirtual 233, 3) := by decide +kernel
theorem dX8_countUnlikeMatches_45 : decode cX8_countUnlikeMatches 45 = .ok (.ifCond .eq 16, 3) := by decide +kernel
theorem dX8_countUnlikeMatches_48 : decode cX8_countUnlikeMatches 48 = .ok (.aload_n 0, 1) := by decide +kernel
theorem dX8_countUnlikeMatches_49 : decode cX8_countUnlikeMatches 49 = .ok (.getfield 53, 3) := by decide +kernel
theorem dX8_countUnlikeMatches_52 : decode cX8_countUnlikeMatches 52 = .ok (.aload_n 2, 1) := by decide +kernel
theorem dX8_countUnlikeMatches_53 : decode cX8_countUnlikeMatches 53 = .ok (.getfield 97, 3) := by decide +kernel
theorem dX8_countUnlikeMatches_56 : decode cX8_countUnlikeMatches 56 = .ok (.iload_n 3, 1) := by decide +kernel
theorem dX8_countUnlikeMatches_57 : decode cX8_countUnlikeMatches 57 = .ok (.aaload, 1) := by decide +kernel
theorem dX8_countUnlikeMatches_58 : decode cX8_countUnlikeMatches 58 = .ok (.invokevirtual 238, 3) := by decide +kernel
theorem dX8_countUnlikeMatches_61 : decode cX8_countUnlikeMatches 61 = .ok (.iinc 3 1, 3) := by decide +kernel
theorem dX8_countUnlikeMatches_64 : decode cX8_countUnlikeMatches 64 = .ok (.goto (-37), 3) := by decide +kernel
theorem dX8_countUnlikeMatches_67 : decode cX8_countUnlikeMatches 67 = .ok (.iinc 1 1, 3) := by decide +kernel
theorem dX8_countUnlikeMatches_70 : decode cX8_countUnlikeMatches 70 = .ok (.goto (-61), 3) := by decide +kernel
theorem dX8_countUnlikeMatches_73 : decode cX8_countUnlikeMatches 73 = .ok (.aload_n 0, 1) := by decide +kernel
theorem dX8_countUnlikeMatches_74 : decode cX8_countUnlikeMatches 74 = .ok (.getfield 53, 3) := by decide +kernel
theorem dX8_countUnlikeMatches_77 : decode cX8_countUnlikeMatches 77 = .ok (.getfield 242, 3) := by decide +kernel
theorem dX8_countUnlikeMatches_80 : decode cX8_countUnlikeMatches 80 = .ok (.ireturn, 1) := by decide +kernel
theorem dX8_countUnlike_0 : decode cX8_countUnlike 0 = .ok (.aload_n 0, 1) := by decide +kernel
theorem dX8_countUnlike_1 : decode cX8_countUnlike 1 = .ok (.getfield 53, 3) := by decide +kernel
theorem dX8_countUnlike_4 : decode cX8_countUnlike 4 = .ok (.invokevirtual 237, 3) := by decide +kernel
theorem dX8_countUnlike_7 : decode cX8_countUnlike 7 = .ok (.iconst 0, 1) := by decide +kernel
theorem dX8_countUnlike_8 : decode cX8_countUnlike 8 = .ok (.istore_n 2, 1) := by decide +kernel
theorem dX8_countUnlike_9 : decode cX8_countUnlike 9 = .ok (.iload_n 2, 1) := by decide +kernel
theorem dX8_countUnlike_10 : decode cX8_countUnlike 10 = .ok (.aload_n 1, 1) := by decide +kernel
theorem dX8_countUnlike_11 : decode cX8_countUnlike 11 = .ok (.getfield 156, 3) := by decide +kernel
theorem dX8_countUnlike_14 : decode cX8_countUnlike 14 = .ok (.if_icmp .ge 22, 3) := by decide +kernel
theorem dX8_countUnlike_17 : decode cX8_countUnlike 17 = .ok (.aload_n 0, 1) := by decide +kernel
theorem dX8_countUnlike_18 : decode cX8_countUnlike 18 = .ok (.getfield 53, 3) := by decide +kernel
theorem dX8_countUnlike_21 : decode cX8_countUnlike 21 = .ok (.aload_n 1, 1) := by decide +kernel
theorem dX8_countUnlike_22 : decode cX8_countUnlike 22 = .ok (.getfield 97, 3) := by decide +kernel
theorem dX8_countUnlike_25 : decode cX8_countUnlike 25 = .ok (.iload_n 2, 1) := by decide +kernel
theorem dX8_countUnlike_26 : decode cX8_countUnlike 26 = .ok (.aaload, 1) := by decide +kernel
theorem dX8_countUnlike_27 : decode cX8_countUnlike 27 = .ok (.invokevirtual 238, 3) := by decide +kernel
theorem dX8_countUnlike_30 : decode cX8_countUnlike 30 = .ok (.iinc 2 1, 3) := by decide +kernel
theorem dX8_countUnlike_33 : decode cX8_countUnlike 33 = .ok (.goto (-24), 3) := by decide +kernel
theorem dX8_countUnlike_36 : decode cX8_countUnlike 36 = .ok (.aload_n 0, 1) := by decide +kernel
theorem dX8_countUnlike_37 : decode cX8_countUnlike 37 = .ok (.getfield 53, 3) := by decide +kernel
theorem dX8_countUnlike_40 : decode cX8_countUnlike 40 = .ok (.getfield 242, 3) := by decide +kernel
theorem dX8_countUnlike_43 : decode cX8_countUnlike 43 = .ok (.ireturn, 1) := by decide +kernel
theorem dX8_tallyMatches_0 : decode cX8_tallyMatches 0 = .ok (.aload_n 0, 1) := by decide +kernel
theorem dX8_tallyMatches_1 : decode cX8_tallyMatches 1 = .ok (.getfield 60, 3) := by decide +kernel
theorem dX8_tallyMatches_4 : decode cX8_tallyMatches 4 = .ok (.invokevirtual 243, 3) := by decide +kernel
theorem dX8_tallyMatches_7 : decode cX8_tallyMatches 7 = .ok (.iconst 0, 1) := by decide +kernel
theorem dX8_tallyMatches_8 : decode cX8_tallyMatches 8 = .ok (.istore_n 2, 1) := by decide +kernel
theorem dX8_tallyMatches_9 : decode cX8_tallyMatches 9 = .ok (.iload_n 2, 1) := by decide +kernel
theorem dX8_tallyMatches_10 : decode cX8_tallyMatches 10 = .ok (.bipush 6, 2) := by decide +kernel
theorem dX8_tallyMatches_12 : decode cX8_tallyMatches 12 = .ok (.if_icmp .ge 67, 3) := by decide +kernel
theorem dX8_tallyMatches_15 : decode cX8_tallyMatches 15 = .ok (.aload_n 0, 1) := by decide +kernel
theorem dX8_tallyMatches_16 : decode cX8_tallyMatches 16 = .ok (.getfield 12, 3) := by decide +kernel
theorem dX8_tallyMatches_19 : decode cX8_tallyMatches 19 = .ok (.getfield 71, 3) := by decide +kernel
theorem dX8_tallyMatches_22 : decode cX8_tallyMatches 22 = .ok (.iload_n 2, 1) := by decide +kernel
theorem dX8_tallyMatches_23 : decode cX8_tallyMatches 23 = .ok (.aaload, 1) := by decide +kernel
theorem dX8_tallyMatches_24 : decode cX8_tallyMatches 24 = .ok (.astore_n 3, 1) := by decide +kernel
theorem dX8_tallyMatches_25 : decode cX8_tallyMatches 25 = .ok (.iconst 0, 1) := by decide +kernel
theorem dX8_tallyMatches_26 : decode cX8_tallyMatches 26 = .ok (.istore 4, 2) := by decide +kernel
theorem dX8_tallyMatches_28 : decode cX8_tallyMatches 28 = .ok (.iload 4, 2) := by decide +kernel
theorem dX8_tallyMatches_30 : decode cX8_tallyMatches 30 = .ok (.aload_n 3, 1) := by decide +kernel
theorem dX8_tallyMatches_31 : decode cX8_tallyMatches 31 = .ok (.getfield 156, 3) := by decide +kernel
theorem dX8_tallyMatches_34 : decode cX8_tallyMatches 34 = .ok (.if_icmp .ge 39, 3) := by decide +kernel
theorem dX8_tallyMatches_37 : decode cX8_tallyMatches 37 = .ok (.aload_n 0, 1) := by decide +kernel
theorem dX8_tallyMatches_38 : decode cX8_tallyMatches 38 = .ok (.aload_n 3, 1) := by decide +kernel
theorem dX8_tallyMatches_39 : decode cX8_tallyMatches 39 = .ok (.getfield 97, 3) := by decide +kernel
theorem dX8_tallyMatches_42 : decode cX8_tallyMatches 42 = .ok (.iload 4, 2) := by decide +kernel
theorem dX8_tallyMatches_44 : decode cX8_tallyMatches 44 = .ok (.aaload, 1) := by decide +kernel
theorem dX8_tallyMatches_45 : decode cX8_tallyMatches 45 = .ok (.invokevirtual 233, 3) := by decide +kernel
theorem dX8_tallyMatches_48 : decode cX8_tallyMatches 48 = .ok (.ifCond .eq 19, 3) := by decide +kernel
theorem dX8_tallyMatches_51 : decode cX8_tallyMatches 51 = .ok (.aload_n 0, 1) := by decide +kernel
theorem dX8_tallyMatches_52 : decode cX8_tallyMatches 52 = .ok (.getfield 60, 3) := by decide +kernel
theorem dX8_tallyMatches_55 : decode cX8_tallyMatches 55 = .ok (.aload_n 3, 1) := by decide +kernel
theorem dX8_tallyMatches_56 : decode cX8_tallyMatches 56 = .ok (.getfield 97, 3) := by decide +kernel
theorem dX8_tallyMatches_59 : decode cX8_tallyMatches 59 = .ok (.iload 4, 2) := by decide +kernel
theorem dX8_tallyMatches_61 : decode cX8_tallyMatches 61 = .ok (.aaload, 1) := by decide +kernel
theorem dX8_tallyMatches_62 : decode cX8_tallyMatches 62 = .ok (.iload_n 1, 1) := by decide +kernel
theorem dX8_tallyMatches_63 : decode cX8_tallyMatches 63 = .ok (.iaload, 1) := by decide +kernel
theorem dX8_tallyMatches_64 : decode cX8_tallyMatches 64 = .ok (.invokevirtual 244, 3) := by decide +kernel
theorem dX8_tallyMatches_67 : decode cX8_tallyMatches 67 = .ok (.iinc 4 1, 3) := by decide +kernel
theorem dX8_tallyMatches_70 : decode cX8_tallyMatches 70 = .ok (.goto (-42), 3) := by decide +kernel
theorem dX8_tallyMatches_73 : decode cX8_tallyMatches 73 = .ok (.iinc 2 1, 3) := by decide +kernel
theorem dX8_tallyMatches_76 : decode cX8_tallyMatches 76 = .ok (.goto (-67), 3) := by decide +kernel
theorem dX8_tallyMatches_79 : decode cX8_tallyMatches 79 = .ok (.return_, 1) := by decide +kernel
theorem dX8_isLetter_0 : decode cX8_isLetter 0 = .ok (.iload_n 0, 1) := by decide +kernel
theorem dX8_isLetter_1 : decode cX8_isLetter 1 = .ok (.bipush 97, 2) := by decide +kernel
theorem dX8_isLetter_3 : decode cX8_isLetter 3 = .ok (.if_icmp .lt 13, 3) := by decide +kernel
theorem dX8_isLetter_6 : decode cX8_isLetter 6 = .ok (.iload_n 0, 1) := by decide +kernel
theorem dX8_isLetter_7 : decode cX8_isLetter 7 = .ok (.bipush 100, 2) := by decide +kernel
theorem dX8_isLetter_9 : decode cX8_isLetter 9 = .ok (.if_icmp .gt 7, 3) := by decide +kernel
theorem dX8_isLetter_12 : decode cX8_isLetter 12 = .ok (.iconst 1, 1) := by decide +kernel
theorem dX8_isLetter_13 : decode cX8_isLetter 13 = .ok (.goto 4, 3) := by decide +kernel
theorem dX8_isLetter_16 : decode cX8_isLetter 16 = .ok (.iconst 0, 1) := by decide +kernel
theorem dX8_isLetter_17 : decode cX8_isLetter 17 = .ok (.ireturn, 1) := by decide +kernel
theorem dX8_isFigure_0 : decode cX8_isFigure 0 = .ok (.iload_n 0, 1) := by decide +kernel
theorem dX8_isFigure_1 : decode cX8_isFigure 1 = .ok (.bipush 48, 2) := by decide +kernel
theorem dX8_isFigure_3 : decode cX8_isFigure 3 = .ok (.if_icmp .lt 13, 3) := by decide +kernel
theorem dX8_isFigure_6 : decode cX8_isFigure 6 = .ok (.iload_n 0, 1) := by decide +kernel
theorem dX8_isFigure_7 : decode cX8_isFigure 7 = .ok (.bipush 57, 2) := by decide +kernel
theorem dX8_isFigure_9 : decode cX8_isFigure 9 = .ok (.if_icmp .gt 7, 3) := by decide +kernel
theorem dX8_isFigure_12 : decode cX8_isFigure 12 = .ok (.iconst 1, 1) := by decide +kernel
theorem dX8_isFigure_13 : decode cX8_isFigure 13 = .ok (.goto 4, 3) := by decide +kernel
theorem dX8_isFigure_16 : decode cX8_isFigure 16 = .ok (.iconst 0, 1) := by decide +kernel
theorem dX8_isFigure_17 : decode cX8_isFigure 17 = .ok (.ireturn, 1) := by decide +kernel
theorem dX8_isSum_0 : decode cX8_isSum 0 = .ok (.iload_n 0, 1) := by decide +kernel
theorem dX8_isSum_1 : decode cX8_isSum 1 = .ok (.bipush 43, 2) := by decide +kernel
theorem dX8_isSum_3 : decode cX8_isSum 3 = .ok (.if_icmp .eq 15, 3) := by decide +kernel
theorem dX8_isSum_6 : decode cX8_isSum 6 = .ok (.iload_n 0, 1) := by decide +kernel
theorem dX8_isSum_7 : decode cX8_isSum 7 = .ok (.bipush 45, 2) := by decide +kernel
theorem dX8_isSum_9 : decode cX8_isSum 9 = .ok (.if_icmp .eq 9, 3) := by decide +kernel
theorem dX8_isSum_12 : decode cX8_isSum 12 = .ok (.iload_n 0, 1) := by decide +kernel
theorem dX8_isSum_13 : decode cX8_isSum 13 = .ok (.bipush 42, 2) := by decide +kernel
theorem dX8_isSum_15 : decode cX8_isSum 15 = .ok (.if_icmp .ne 7, 3) := by decide +kernel
theorem dX8_isSum_18 : decode cX8_isSum 18 = .ok (.iconst 1, 1) := by decide +kernel
theorem dX8_isSum_19 : decode cX8_isSum 19 = .ok (.goto 4, 3) := by decide +kernel
theorem dX8_isSum_22 : decode cX8_isSum 22 = .ok (.iconst 0, 1) := by decide +kernel
theorem dX8_isSum_23 : decode cX8_isSum 23 = .ok (.ireturn, 1) := by decide +kernel
theorem dX8_hasSecond_0 : decode cX8_hasSecond 0 = .ok (.iload_n 0, 1) := by decide +kernel
theorem dX8_hasSecond_1 : decode cX8_hasSecond 1 = .ok (.invokestatic 246, 3) := by decide +kernel
theorem dX8_hasSecond_4 : decode cX8_hasSecond 4 = .ok (.ifCond .ne 33, 3) := by decide +kernel
theorem dX8_hasSecond_7 : decode cX8_hasSecond 7 = .ok (.iload_n 0, 1) := by decide +kernel
theorem dX8_hasSecond_8 : decode cX8_hasSecond 8 = .ok (.bipush 37, 2) := by decide +kernel
theorem dX8_hasSecond_10 : decode cX8_hasSecond 10 = .ok (.if_icmp .eq 27, 3) := by decide +kernel
theorem dX8_hasSecond_13 : decode cX8_hasSecond 13 = .ok (.iload_n 0, 1) := by decide +kernel
theorem dX8_hasSecond_14 : decode cX8_hasSecond 14 = .ok (.bipush 60, 2) := by decide +kernel
theorem dX8_hasSecond_16 : decode cX8_hasSecond 16 = .ok (.if_icmp .eq 21, 3) := by decide +kernel
theorem dX8_hasSecond_19 : decode cX8_hasSecond 19 = .ok (.iload_n 0, 1) := by decide +kernel
theorem dX8_hasSecond_20 : decode cX8_hasSecond 20 = .ok (.bipush 61, 2) := by decide +kernel
theorem dX8_hasSecond_22 : decode cX8_hasSecond 22 = .ok (.if_icmp .eq 15, 3) := by decide +kernel
theorem dX8_hasSecond_25 : decode cX8_hasSecond 25 = .ok (.iload_n 0, 1) := by decide +kernel
theorem dX8_hasSecond_26 : decode cX8_hasSecond 26 = .ok (.bipush 38, 2) := by decide +kernel
theorem dX8_hasSecond_28 : decode cX8_hasSecond 28 = .ok (.if_icmp .eq 9, 3) := by decide +kernel
theorem dX8_hasSecond_31 : decode cX8_hasSecond 31 = .ok (.iload_n 0, 1) := by decide +kernel
theorem dX8_hasSecond_32 : decode cX8_hasSecond 32 = .ok (.bipush 124, 2) := by decide +kernel
theorem dX8_hasSecond_34 : decode cX8_hasSecond 34 = .ok (.if_icmp .ne 7, 3) := by decide +kernel
theorem dX8_hasSecond_37 : decode cX8_hasSecond 37 = .ok (.iconst 1, 1) := by decide +kernel
theorem dX8_hasSecond_38 : decode cX8_hasSecond 38 = .ok (.goto 4, 3) := by decide +kernel
theorem dX8_hasSecond_41 : decode cX8_hasSecond 41 = .ok (.iconst 0, 1) := by decide +kernel
theorem dX8_hasSecond_42 : decode cX8_hasSecond 42 = .ok (.ireturn, 1) := by decide +kernel
theorem dX8_at_0 : decode cX8_at 0 = .ok (.iload_n 1, 1) := by decide +kernel
theorem dX8_at_1 : decode cX8_at 1 = .ok (.ifCond .lt 15, 3) := by decide +kernel
theorem dX8_at_4 : decode cX8_at 4 = .ok (.iload_n 1, 1) := by decide +kernel
theorem dX8_at_5 : decode cX8_at 5 = .ok (.aload_n 0, 1) := by decide +kernel
theorem dX8_at_6 : decode cX8_at 6 = .ok (.arraylength, 1) := by decide +kernel
theorem dX8_at_7 : decode cX8_at 7 = .ok (.if_icmp .ge 9, 3) := by decide +kernel
theorem dX8_at_10 : decode cX8_at 10 = .ok (.aload_n 0, 1) := by decide +kernel
theorem dX8_at_11 : decode cX8_at 11 = .ok (.iload_n 1, 1) := by decide +kernel
theorem dX8_at_12 : decode cX8_at 12 = .ok (.iaload, 1) := by decide +kernel
theorem dX8_at_13 : decode cX8_at 13 = .ok (.goto 4, 3) := by decide +kernel
theorem dX8_at_16 : decode cX8_at 16 = .ok (.iconst 0, 1) := by decide +kernel
theorem dX8_at_17 : decode cX8_at 17 = .ok (.ireturn, 1) := by decide +kernel
theorem dX8_sumOf_0 : decode cX8_sumOf 0 = .ok (.iload_n 1, 1) := by decide +kernel
theorem dX8_sumOf_1 : decode cX8_sumOf 1 = .ok (.i2l, 1) := by decide +kernel
theorem dX8_sumOf_2 : decode cX8_sumOf 2 = .ok (.iload_n 2, 1) := by decide +kernel
theorem dX8_sumOf_3 : decode cX8_sumOf 3 = .ok (.i2l, 1) := by decide +kernel
theorem dX8_sumOf_4 : decode cX8_sumOf 4 = .ok (.lmul, 1) := by decide +kernel
theorem dX8_sumOf_5 : decode cX8_sumOf 5 = .ok (.lstore_n 3, 1) := by decide +kernel
theorem dX8_sumOf_6 : decode cX8_sumOf 6 = .ok (.iload_n 0, 1) := by decide +kernel
theorem dX8_sumOf_7 : decode cX8_sumOf 7 = .ok (.bipush 43, 2) := by decide +kernel
theorem dX8_sumOf_9 : decode cX8_sumOf 9 = .ok (.if_icmp .ne 12, 3) := by decide +kernel
theorem dX8_sumOf_12 : decode cX8_sumOf 12 = .ok (.iload_n 1, 1) := by decide +kernel
theorem dX8_sumOf_13 : decode cX8_sumOf 13 = .ok (.i2l, 1) := by decide +kernel
theorem dX8_sumOf_14 : decode cX8_sumOf 14 = .ok (.iload_n 2, 1) := by decide +kernel
theorem dX8_sumOf_15 : decode cX8_sumOf 15 = .ok (.i2l, 1) := by decide +kernel
theorem dX8_sumOf_16 : decode cX8_sumOf 16 = .ok (.ladd, 1) := by decide +kernel
theorem dX8_sumOf_17 : decode cX8_sumOf 17 = .ok (.lstore_n 3, 1) := by decide +kernel
theorem dX8_sumOf_18 : decode cX8_sumOf 18 = .ok (.goto 15, 3) := by decide +kernel
theorem dX8_sumOf_21 : decode cX8_sumOf 21 = .ok (.iload_n 0, 1) := by decide +kernel
theorem dX8_sumOf_22 : decode cX8_sumOf 22 = .ok (.bipush 45, 2) := by decide +kernel
theorem dX8_sumOf_24 : decode cX8_sumOf 24 = .ok (.if_icmp .ne 9, 3) := by decide +kernel
theorem dX8_sumOf_27 : decode cX8_sumOf 27 = .ok (.iload_n 1, 1) := by decide +kernel
theorem dX8_sumOf_28 : decode cX8_sumOf 28 = .ok (.i2l, 1) := by decide +kernel
theorem dX8_sumOf_29 : decode cX8_sumOf 29 = .ok (.iload_n 2, 1) := by decide +kernel
theorem dX8_sumOf_30 : decode cX8_sumOf 30 = .ok (.i2l, 1) := by decide +kernel
theorem dX8_sumOf_31 : decode cX8_sumOf 31 = .ok (.lsub, 1) := by decide +kernel
theorem dX8_sumOf_32 : decode cX8_sumOf 32 = .ok (.lstore_n 3, 1) := by decide +kernel
theorem dX8_sumOf_33 : decode cX8_sumOf 33 = .ok (.lload_n 3, 1) := by decide +kernel
theorem dX8_sumOf_34 : decode cX8_sumOf 34 = .ok (.ldc2_w 249, 3) := by decide +kernel
theorem dX8_sumOf_37 : decode cX8_sumOf 37 = .ok (.lcmp, 1) := by decide +kernel
theorem dX8_sumOf_38 : decode cX8_sumOf 38 = .ok (.ifCond .ge 6, 3) := by decide +kernel
theorem dX8_sumOf_41 : decode cX8_sumOf 41 = .ok (.ldc 251, 2) := by decide +kernel
theorem dX8_sumOf_43 : decode cX8_sumOf 43 = .ok (.ireturn, 1) := by decide +kernel
theorem dX8_sumOf_44 : decode cX8_sumOf 44 = .ok (.lload_n 3, 1) := by decide +kernel
theorem dX8_sumOf_45 : decode cX8_sumOf 45 = .ok (.ldc2_w 252, 3) := by decide +kernel
theorem dX8_sumOf_48 : decode cX8_sumOf 48 = .ok (.lcmp, 1) := by decide +kernel
theorem dX8_sumOf_49 : decode cX8_sumOf 49 = .ok (.ifCond .le 8, 3) := by decide +kernel
theorem dX8_sumOf_52 : decode cX8_sumOf 52 = .ok (.ldc 254, 2) := by decide +kernel
theorem dX8_sumOf_54 : decode cX8_sumOf 54 = .ok (.goto 5, 3) := by decide +kernel
theorem dX8_sumOf_57 : decode cX8_sumOf 57 = .ok (.lload_n 3, 1) := by decide +kernel
theorem dX8_sumOf_58 : decode cX8_sumOf 58 = .ok (.l2i, 1) := by decide +kernel
theorem dX8_sumOf_59 : decode cX8_sumOf 59 = .ok (.ireturn, 1) := by decide +kernel
theorem dX8_bothOf_0 : decode cX8_bothOf 0 = .ok (.iload_n 0, 1) := by decide +kernel
theorem dX8_bothOf_1 : decode cX8_bothOf 1 = .ok (.ifCond .eq 7, 3) := by decide +kernel
theorem dX8_bothOf_4 : decode cX8_bothOf 4 = .ok (.iload_n 1, 1) := by decide +kernel
theorem dX8_bothOf_5 : decode cX8_bothOf 5 = .ok (.ifCond .ne 5, 3) := by decide +kernel
theorem dX8_bothOf_8 : decode cX8_bothOf 8 = .ok (.iconst 0, 1) := by decide +kernel
theorem dX8_bothOf_9 : decode cX8_bothOf 9 = .ok (.ireturn, 1) := by decide +kernel
theorem dX8_bothOf_10 : decode cX8_bothOf 10 = .ok (.iload_n 0, 1) := by decide +kernel
theorem dX8_bothOf_11 : decode cX8_bothOf 11 = .ok (.iconst 2, 1) := by decide +kernel
theorem dX8_bothOf_12 : decode cX8_bothOf 12 = .ok (.if_icmp .eq 8, 3) := by decide +kernel
theorem dX8_bothOf_15 : decode cX8_bothOf 15 = .ok (.iload_n 1, 1) := by decide +kernel
theorem dX8_bothOf_16 : decode cX8_bothOf 16 = .ok (.iconst 2, 1) := by decide +kernel
theorem dX8_bothOf_17 : decode cX8_bothOf 17 = .ok (.if_icmp .ne 7, 3) := by decide +kernel
theorem dX8_bothOf_20 : decode cX8_bothOf 20 = .ok (.iconst 2, 1) := by decide +kernel
theorem dX8_bothOf_21 : decode cX8_bothOf 21 = .ok (.goto 4, 3) := by decide +kernel
theorem dX8_bothOf_24 : decode cX8_bothOf 24 = .ok (.iconst 1, 1) := by decide +kernel
theorem dX8_bothOf_25 : decode cX8_bothOf 25 = .ok (.ireturn, 1) := by decide +kernel
theorem dX8_eitherOf_0 : decode cX8_eitherOf 0 = .ok (.iload_n 0, 1) := by decide +kernel
theorem dX8_eitherOf_1 : decode cX8_eitherOf 1 = .ok (.iconst 1, 1) := by decide +kernel
theorem dX8_eitherOf_2 : decode cX8_eitherOf 2 = .ok (.if_icmp .eq 8, 3) := by decide +kernel
theorem dX8_eitherOf_5 : decode cX8_eitherOf 5 = .ok (.iload_n 1, 1) := by decide +kernel
theorem dX8_eitherOf_6 : decode cX8_eitherOf 6 = .ok (.iconst 1, 1) := by decide +kernel
theorem dX8_eitherOf_7 : decode cX8_eitherOf 7 = .ok (.if_icmp .ne 5, 3) := by decide +kernel
theorem dX8_eitherOf_10 : decode cX8_eitherOf 10 = .ok (.iconst 1, 1) := by decide +kernel
theorem dX8_eitherOf_11 : decode cX8_eitherOf 11 = .ok (.ireturn, 1) := by decide +kernel
theorem dX8_eitherOf_12 : decode cX8_eitherOf 12 = .ok (.iload_n 0, 1) := by decide +kernel
theorem dX8_eitherOf_13 : decode cX8_eitherOf 13 = .ok (.iconst 2, 1) := by decide +kernel
theorem dX8_eitherOf_14 : decode cX8_eitherOf 14 = .ok (.if_icmp .eq 8, 3) := by decide +kernel
theorem dX8_eitherOf_17 : decode cX8_eitherOf 17 = .ok (.iload_n 1, 1) := by decide +kernel
theorem dX8_eitherOf_18 : decode cX8_eitherOf 18 = .ok (.iconst 2, 1) := by decide +kernel
theorem dX8_eitherOf_19 : decode cX8_eitherOf 19 = .ok (.if_icmp .ne 7, 3) := by decide +kernel
theorem dX8_eitherOf_22 : decode cX8_eitherOf 22 = .ok (.iconst 2, 1) := by decide +kernel
theorem dX8_eitherOf_23 : decode cX8_eitherOf 23 = .ok (.goto 4, 3) := by decide +kernel
theorem dX8_eitherOf_26 : decode cX8_eitherOf 26 = .ok (.iconst 0, 1) := by decide +kernel
theorem dX8_eitherOf_27 : decode cX8_eitherOf 27 = .ok (.ireturn, 1) := by decide +kernel
theorem dX8_notOf_0 : decode cX8_notOf 0 = .ok (.iload_n 0, 1) := by decide +kernel
theorem dX8_notOf_1 : decode cX8_notOf 1 = .ok (.iconst 2, 1) := by decide +kernel
theorem dX8_notOf_2 : decode cX8_notOf 2 = .ok (.if_icmp .ne 5, 3) := by decide +kernel
theorem dX8_notOf_5 : decode cX8_notOf 5 = .ok (.iconst 2, 1) := by decide +kernel
theorem dX8_notOf_6 : decode cX8_notOf 6 = .ok (.ireturn, 1) := by decide +kernel
theorem dX8_notOf_7 : decode cX8_notOf 7 = .ok (.iload_n 0, 1) := by decide +kernel
theorem dX8_notOf_8 : decode cX8_notOf 8 = .ok (.iconst 1, 1) := by decide +kernel
theorem dX8_notOf_9 : decode cX8_notOf 9 = .ok (.if_icmp .ne 7, 3) := by decide +kernel
theorem dX8_notOf_12 : decode cX8_notOf 12 = .ok (.iconst 0, 1) := by decide +kernel
theorem dX8_notOf_13 : decode cX8_notOf 13 = .ok (.goto 4, 3) := by decide +kernel
theorem dX8_notOf_16 : decode cX8_notOf 16 = .ok (.iconst 1, 1) := by decide +kernel
theorem dX8_notOf_17 : decode cX8_notOf 17 = .ok (.ireturn, 1) := by decide +kernel
theorem dX8_chanceOf_0 : decode cX8_chanceOf 0 = .ok (.iload_n 0, 1) := by decide +kernel
theorem dX8_chanceOf_1 : decode cX8_chanceOf 1 = .ok (.iconst 2, 1) := by decide +kernel
theorem dX8_chanceOf_2 : decode cX8_chanceOf 2 = .ok (.if_icmp .ne 5, 3) := by decide +kernel
theorem dX8_chanceOf_5 : decode cX8_chanceOf 5 = .ok (.iconst 4, 1) := by decide +kernel
theorem dX8_chanceOf_6 : decode cX8_chanceOf 6 = .ok (.ireturn, 1) := by decide +kernel
theorem dX8_chanceOf_7 : decode cX8_chanceOf 7 = .ok (.iload_n 0, 1) := by decide +kernel
theorem dX8_chanceOf_8 : decode cX8_chanceOf 8 = .ok (.iconst 1, 1) := by decide +kernel
theorem dX8_chanceOf_9 : decode cX8_chanceOf 9 = .ok (.if_icmp .ne 7, 3) := by decide +kernel
theorem dX8_chanceOf_12 : decode cX8_chanceOf 12 = .ok (.iconst 1, 1) := by decide +kernel
theorem dX8_chanceOf_13 : decode cX8_chanceOf 13 = .ok (.goto 4, 3) := by decide +kernel
theorem dX8_chanceOf_16 : decode cX8_chanceOf 16 = .ok (.iconst 2, 1) := by decide +kernel
theorem dX8_chanceOf_17 : decode cX8_chanceOf 17 = .ok (.ireturn, 1) := by decide +kernel
end
section
theorem dX9_init_0 : decode cX9_init 0 = .ok (.aload_n 0, 1) := by decide +kernel
theorem dX9_init_1 : decode cX9_init 1 = .ok (.invokespecial 1, 3) := by decide +kernel
theorem dX9_init_4 : decode cX9_init 4 = .ok (.aload_n 0, 1) := by decide +kernel
theorem dX9_init_5 : decode cX9_init 5 = .ok (.sipush 192, 3) := by decide +kernel
theorem dX9_init_8 : decode cX9_init 8 = .ok (.newarray .int, 2) := by decide +kernel
theorem dX9_init_10 : decode cX9_init 10 = .ok (.putfield 7, 3) := by decide +kernel
theorem dX9_init_13 : decode cX9_init 13 = .ok (.aload_n 0, 1) := by decide +kernel
theorem dX9_init_14 : decode cX9_init 14 = .ok (.bipush 6, 2) := by decide +kernel
theorem dX9_init_16 : decode cX9_init 16 = .ok (.newarray .int, 2) := by decide +kernel
theorem dX9_init_18 : decode cX9_init 18 = .ok (.putfield 13, 3) := by decide +kernel
theorem dX9_init_21 : decode cX9_init 21 = .ok (.aload_n 0, 1) := by decide +kernel
theorem dX9_init_22 : decode cX9_init 22 = .ok (.sipush 288, 3) := by decide +kernel
theorem dX9_init_25 : decode cX9_init 25 = .ok (.newarray .int, 2) := by decide +kernel
theorem dX9_init_27 : decode cX9_init 27 = .ok (.putfield 16, 3) := by decide +kernel
theorem dX9_init_30 : decode cX9_init 30 = .ok (.aload_n 0, 1) := by decide +kernel
theorem dX9_init_31 : decode cX9_init 31 = .ok (.bipush 12, 2) := by decide +kernel
theorem dX9_init_33 : decode cX9_init 33 = .ok (.newarray .int, 2) := by decide +kernel
theorem dX9_init_35 : decode cX9_init 35 = .ok (.putfield 19, 3) := by decide +kernel
theorem dX9_init_38 : decode cX9_init 38 = .ok (.aload_n 0, 1) := by decide +kernel
theorem dX9_init_39 : decode cX9_init 39 = .ok (.bipush 60, 2) := by decide +kernel
theorem dX9_init_41 : decode cX9_init 41 = .ok (.newarray .int, 2) := by decide +kernel
theorem dX9_init_43 : decode cX9_init 43 = .ok (.putfield 22, 3) := by decide +kernel
theorem dX9_init_46 : decode cX9_init 46 = .ok (.aload_n 0, 1) := by decide +kernel
theorem dX9_init_47 : decode cX9_init 47 = .ok (.bipush 60, 2) := by decide +kernel
theorem dX9_init_49 : decode cX9_init 49 = .ok (.newarray .int, 2) := by decide +kernel
theorem dX9_init_51 : decode cX9_init 51 = .ok (.putfield 25, 3) := by decide +kernel
theorem dX9_init_54 : decode cX9_init 54 = .ok (.aload_n 0, 1) := by decide +kernel
theorem dX9_init_55 : decode cX9_init 55 = .ok (.bipush 60, 2) := by decide +kernel
theorem dX9_init_57 : decode cX9_init 57 = .ok (.newarray .int, 2) := by decide +kernel
theorem dX9_init_59 : decode cX9_init 59 = .ok (.putfield 28, 3) := by decide +kernel
theorem dX9_init_62 : decode cX9_init 62 = .ok (.aload_n 0, 1) := by decide +kernel
theorem dX9_init_63 : decode cX9_init 63 = .ok (.bipush 60, 2) := by decide +kernel
theorem dX9_init_65 : decode cX9_init 65 = .ok (.newarray .int, 2) := by decide +kernel
theorem dX9_init_67 : decode cX9_init 67 = .ok (.putfield 31, 3) := by decide +kernel
theorem dX9_init_70 : decode cX9_init 70 = .ok (.aload_n 0, 1) := by decide +kernel
theorem dX9_init_71 : decode cX9_init 71 = .ok (.bipush 60, 2) := by decide +kernel
theorem dX9_init_73 : decode cX9_init 73 = .ok (.newarray .int, 2) := by decide +kernel
theorem dX9_init_75 : decode cX9_init 75 = .ok (.putfield 34, 3) := by decide +kernel
theorem dX9_init_78 : decode cX9_init 78 = .ok (.aload_n 0, 1) := by decide +kernel
theorem dX9_init_79 : decode cX9_init 79 = .ok (.sipush 200, 3) := by decide +kernel
theorem dX9_init_82 : decode cX9_init 82 = .ok (.newarray .int, 2) := by decide +kernel
theorem dX9_init_84 : decode cX9_init 84 = .ok (.putfield 37, 3) := by decide +kernel
theorem dX9_init_87 : decode cX9_init 87 = .ok (.aload_n 0, 1) := by decide +kernel
theorem dX9_init_88 : decode cX9_init 88 = .ok (.bipush 60, 2) := by decide +kernel
theorem dX9_init_90 : decode cX9_init 90 = .ok (.newarray .int, 2) := by decide +kernel
theorem dX9_init_92 : decode cX9_init 92 = .ok (.putfield 40, 3) := by decide +kernel
theorem dX9_init_95 : decode cX9_init 95 = .ok (.aload_n 0, 1) := by decide +kernel
theorem dX9_init_96 : decode cX9_init 96 = .ok (.iconst 4, 1) := by decide +kernel
theorem dX9_init_97 : decode cX9_init 97 = .ok (.newarray .int, 2) := by decide +kernel
theorem dX9_init_99 : decode cX9_init 99 = .ok (.putfield 43, 3) := by decide +kernel
theorem dX9_init_102 : decode cX9_init 102 = .ok (.aload_n 0, 1) := by decide +kernel
theorem dX9_init_103 : decode cX9_init 103 = .ok (.bipush 60, 2) := by decide +kernel
theorem dX9_init_105 : decode cX9_init 105 = .ok (.newarray .int, 2) := by decide +kernel
theorem dX9_init_107 : decode cX9_init 107 = .ok (.putfield 46, 3) := by decide +kernel
theorem dX9_init_110 : decode cX9_init 110 = .ok (.aload_n 0, 1) := by decide +kernel
theorem dX9_init_111 : decode cX9_init 111 = .ok (.bipush 60, 2) := by decide +kernel
theorem dX9_init_113 : decode cX9_init 113 = .ok (.newarray .int, 2) := by decide +kernel
theorem dX9_init_115 : decode cX9_init 115 = .ok (.putfield 49, 3) := by decide +kernel
theorem dX9_init_118 : decode cX9_init 118 = .ok (.aload_n 0, 1) := by decide +kernel
theorem dX9_init_119 : decode cX9_init 119 = .ok (.bipush 60, 2) := by decide +kernel
theorem dX9_init_121 : decode cX9_init 121 = .ok (.newarray .int, 2) := by decide +kernel
theorem dX9_init_123 : decode cX9_init 123 = .ok (.putfield 52, 3) := by decide +kernel
theorem dX9_init_126 : decode cX9_init 126 = .ok (.aload_n 0, 1) := by decide +kernel
theorem dX9_init_127 : decode cX9_init 127 = .ok (.sipush 1000, 3) := by decide +kernel
theorem dX9_init_130 : decode cX9_init 130 = .ok (.newarray .int, 2) := by decide +kernel
theorem dX9_init_132 : decode cX9_init 132 = .ok (.putfield 55, 3) := by decide +kernel
theorem dX9_init_135 : decode cX9_init 135 = .ok (.aload_n 0, 1) := by decide +kernel
theorem dX9_init_136 : decode cX9_init 136 = .ok (.iconst 2, 1) := by decide +kernel
theorem dX9_init_137 : decode cX9_init 137 = .ok (.newarray .boolean, 2) := by decide +kernel
theorem dX9_init_139 : decode cX9_init 139 = .ok (.putfield 58, 3) := by decide +kernel
theorem dX9_init_142 : decode cX9_init 142 = .ok (.iconst 0, 1) := by decide +kernel
theorem dX9_init_143 : decode cX9_init 143 = .ok (.istore_n 1, 1) := by decide +kernel
theorem dX9_init_144 : decode cX9_init 144 = .ok (.iload_n 1, 1) := by decide +kernel
theorem dX9_init_145 : decode cX9_init 145 = .ok (.bipush 24, 2) := by decide +kernel
theorem dX9_init_147 : decode cX9_init 147 = .ok (.if_icmp .ge 14, 3) := by decide +kernel
theorem dX9_init_150 : decode cX9_init 150 = .ok (.aload_n 0, 1) := by decide +kernel
theorem dX9_init_151 : decode cX9_init 151 = .ok (.iload_n 1, 1) := by decide +kernel
theorem dX9_init_152 : decode cX9_init 152 = .ok (.invokevirtual 62, 3) := by decide +kernel
theorem dX9_init_155 : decode cX9_init 155 = .ok (.iinc 1 1, 3) := by decide +kernel
theorem dX9_init_158 : decode cX9_init 158 = .ok (.goto (-14), 3) := by decide +kernel
theorem dX9_init_161 : decode cX9_init 161 = .ok (.return_, 1) := by decide +kernel
theorem dX9_in_0 : decode cX9_in 0 = .ok (.iload_n 0, 1) := by decide +kernel
theorem dX9_in_1 : decode cX9_in 1 = .ok (.iload_n 1, 1) := by decide +kernel
theorem dX9_in_2 : decode cX9_in 2 = .ok (.if_icmp .lt 12, 3) := by decide +kernel
theorem dX9_in_5 : decode cX9_in 5 = .ok (.iload_n 0, 1) := by decide +kernel
theorem dX9_in_6 : decode cX9_in 6 = .ok (.iload_n 2, 1) := by decide +kernel
theorem dX9_in_7 : decode cX9_in 7 = .ok (.if_icmp .gt 7, 3) := by decide +kernel
theorem dX9_in_10 : decode cX9_in 10 = .ok (.iconst 1, 1) := by decide +kernel
theorem dX9_in_11 : decode cX9_in 11 = .ok (.goto 4, 3) := by decide +kernel
theorem dX9_in_14 : decode cX9_in 14 = .ok (.iconst 0, 1) := by decide +kernel
theorem dX9_in_15 : decode cX9_in 15 = .ok (.ireturn, 1) := by decide +kernel
theorem dX9_isBlock_0 : decode cX9_isBlock 0 = .ok (.iload_n 0, 1) := by decide +kernel
theorem dX9_isBlock_1 : decode cX9_isBlock 1 = .ok (.iconst 0, 1) := by decide +kernel
theorem dX9_isBlock_2 : decode cX9_isBlock 2 = .ok (.iconst 5, 1) := by decide +kernel
theorem dX9_isBlock_3 : decode cX9_isBlock 3 = .ok (.invokestatic 66, 3) := by decide +kernel
theorem dX9_isBlock_6 : decode cX9_isBlock 6 = .ok (.ireturn, 1) := by decide +kernel
theorem dX9_isColumn_0 : decode cX9_isColumn 0 = .ok (.iload_n 0, 1) := by decide +kernel
theorem dX9_isColumn_1 : decode cX9_isColumn 1 = .ok (.iconst 0, 1) := by decide +kernel
theorem dX9_isColumn_2 : decode cX9_isColumn 2 = .ok (.iconst 3, 1) := by decide +kernel
theorem dX9_isColumn_3 : decode cX9_isColumn 3 = .ok (.invokestatic 66, 3) := by decide +kernel
theorem dX9_isColumn_6 : decode cX9_isColumn 6 = .ok (.ireturn, 1) := by decide +kernel
theorem dX9_isRow_0 : decode cX9_isRow 0 = .ok (.iload_n 1, 1) := by decide +kernel
theorem dX9_isRow_1 : decode cX9_isRow 1 = .ok (.invokestatic 70, 3) := by decide +kernel
theorem dX9_isRow_4 : decode cX9_isRow 4 = .ok (.ifCond .eq 23, 3) := by decide +kernel
theorem dX9_isRow_7 : decode cX9_isRow 7 = .ok (.iload_n 2, 1) := by decide +kernel
theorem dX9_isRow_8 : decode cX9_isRow 8 = .ok (.iconst 0, 1) := by decide +kernel
theorem dX9_isRow_9 : decode cX9_isRow 9 = .ok (.aload_n 0, 1) := by decide +kernel
theorem dX9_isRow_10 : decode cX9_isRow 10 = .ok (.getfield 13, 3) := by decide +kernel
theorem dX9_isRow_13 : decode cX9_isRow 13 = .ok (.iload_n 1, 1) := by decide +kernel
theorem dX9_isRow_14 : decode cX9_isRow 14 = .ok (.iaload, 1) := by decide +kernel
theorem dX9_isRow_15 : decode cX9_isRow 15 = .ok (.iconst 1, 1) := by decide +kernel
theorem dX9_isRow_16 : decode cX9_isRow 16 = .ok (.isub, 1) := by decide +kernel
theorem dX9_isRow_17 : decode cX9_isRow 17 = .ok (.invokestatic 66, 3) := by decide +kernel
theorem dX9_isRow_20 : decode cX9_isRow 20 = .ok (.ifCond .eq 7, 3) := by decide +kernel
theorem dX9_isRow_23 : decode cX9_isRow 23 = .ok (.iconst 1, 1) := by decide +kernel
theorem dX9_isRow_24 : decode cX9_isRow 24 = .ok (.goto 4, 3) := by decide +kernel
theorem dX9_isRow_27 : decode cX9_isRow 27 = .ok (.iconst 0, 1) := by decide +kernel
theorem dX9_isRow_28 : decode cX9_isRow 28 = .ok (.ireturn, 1) := by decide +kernel
theorem dX9_at_0 : decode cX9_at 0 = .ok (.aload_n 0, 1) := by decide +kernel
theorem dX9_at_1 : decode cX9_at 1 = .ok (.getfield 7, 3) := by decide +kernel
theorem dX9_at_4 : decode cX9_at 4 = .ok (.bipush 32, 2) := by decide +kernel
theorem dX9_at_6 : decode cX9_at 6 = .ok (.iload_n 1, 1) := by decide +kernel
theorem dX9_at_7 : decode cX9_at 7 = .ok (.imul, 1) := by decide +kernel
theorem dX9_at_8 : decode cX9_at 8 = .ok (.iconst 4, 1) := by decide +kernel
theorem dX9_at_9 : decode cX9_at 9 = .ok (.iload_n 2, 1) := by decide +kernel
theorem dX9_at_10 : decode cX9_at 10 = .ok (.imul, 1) := by decide +kernel
theorem dX9_at_11 : decode cX9_at 11 = .ok (.iadd, 1) := by decide +kernel
theorem dX9_at_12 : decode cX9_at 12 = .ok (.iload_n 3, 1) := by decide +kernel
theorem dX9_at_13 : decode cX9_at 13 = .ok (.iadd, 1) := by decide +kernel
theorem dX9_at_14 : decode cX9_at 14 = .ok (.iaload, 1) := by decide +kernel
theorem dX9_at_15 : decode cX9_at 15 = .ok (.ireturn, 1) := by decide +kernel
theorem dX9_clear_0 : decode cX9_clear 0 = .ok (.iconst 0, 1) := by decide +kernel
theorem dX9_clear_1 : decode cX9_clear 1 = .ok (.istore_n 2, 1) := by decide +kernel
theorem dX9_clear_2 : decode cX9_clear 2 = .ok (.iload_n 2, 1) := by decide +kernel
theorem dX9_clear_3 : decode cX9_clear 3 = .ok (.bipush 12, 2) := by decide +kernel
theorem dX9_clear_5 : decode cX9_clear 5 = .ok (.if_icmp .ge 31, 3) := by decide +kernel
theorem dX9_clear_8 : decode cX9_clear 8 = .ok (.aload_n 0, 1) := by decide +kernel
theorem dX9_clear_9 : decode cX9_clear 9 = .ok (.getfield 16, 3) := by decide +kernel
theorem dX9_clear_12 : decode cX9_clear 12 = .ok (.bipush 12, 2) := by decide +kernel
theorem dX9_clear_14 : decode cX9_clear 14 = .ok (.iload_n 1, 1) := by decide +kernel
theorem dX9_clear_15 : decode cX9_clear 15 = .ok (.imul, 1) := by decide +kernel
theorem dX9_clear_16 : decode cX9_clear 16 = .ok (.iload_n 2, 1) := by decide +kernel
theorem dX9_clear_17 : decode cX9_clear 17 = .ok (.iadd, 1) := by decide +kernel
theorem dX9_clear_18 : decode cX9_clear 18 = .ok (.iload_n 2, 1) := by decide +kernel
theorem dX9_clear_19 : decode cX9_clear 19 = .ok (.iconst 2, 1) := by decide +kernel
theorem dX9_clear_20 : decode cX9_clear 20 = .ok (.if_icmp .ge 8, 3) := by decide +kernel
theorem dX9_clear_23 : decode cX9_clear 23 = .ok (.ldc 74, 2) := by decide +kernel
theorem dX9_clear_25 : decode cX9_clear 25 = .ok (.goto 4, 3) := by decide +kernel
theorem dX9_clear_28 : decode cX9_clear 28 = .ok (.iconst 0, 1) := by decide +kernel
theorem dX9_clear_29 : decode cX9_clear 29 = .ok (.iastore, 1) := by decide +kernel
theorem dX9_clear_30 : decode cX9_clear 30 = .ok (.iinc 2 1, 3) := by decide +kernel
theorem dX9_clear_33 : decode cX9_clear 33 = .ok (.goto (-31), 3) := by decide +kernel
theorem dX9_clear_36 : decode cX9_clear 36 = .ok (.return_, 1) := by decide +kernel
theorem dX9_placeOf_0 : decode cX9_placeOf 0 = .ok (.iconst 0, 1) := by decide +kernel
theorem dX9_placeOf_1 : decode cX9_placeOf 1 = .ok (.istore_n 3, 1) := by decide +kernel
theorem dX9_placeOf_2 : decode cX9_placeOf 2 = .ok (.iload_n 3, 1) := by decide +kernel
theorem dX9_placeOf_3 : decode cX9_placeOf 3 = .ok (.aload_n 0, 1) := by decide +kernel
theorem dX9_placeOf_4 : decode cX9_placeOf 4 = .ok (.getfield 16, 3) := by decide +kernel
theorem dX9_placeOf_7 : decode cX9_placeOf 7 = .ok (.bipush 12, 2) := by decide +kernel
theorem dX9_placeOf_9 : decode cX9_placeOf 9 = .ok (.iload_n 1, 1) := by decide +kernel
theorem dX9_placeOf_10 : decode cX9_placeOf 10 = .ok (.imul, 1) := by decide +kernel
theorem dX9_placeOf_11 : decode cX9_placeOf 11 = .ok (.iconst 3, 1) := by decide +kernel
theorem dX9_placeOf_12 : decode cX9_placeOf 12 = .ok (.iadd, 1) := by decide +kernel
theorem dX9_placeOf_13 : decode cX9_placeOf 13 = .ok (.iaload, 1) := by decide +kernel
theorem dX9_placeOf_14 : decode cX9_placeOf 14 = .ok (.if_icmp .ge 28, 3) := by decide +kernel
theorem dX9_placeOf_17 : decode cX9_placeOf 17 = .ok (.aload_n 0, 1) := by decide +kernel
theorem dX9_placeOf_18 : decode cX9_placeOf 18 = .ok (.getfield 16, 3) := by decide +kernel
theorem dX9_placeOf_21 : decode cX9_placeOf 21 = .ok (.bipush 12, 2) := by decide +kernel
theorem dX9_placeOf_23 : decode cX9_placeOf 23 = .ok (.iload_n 1, 1) := by decide +kernel
theorem dX9_placeOf_24 : decode cX9_placeOf 24 = .ok (.imul, 1) := by decide +kernel
theorem dX9_placeOf_25 : decode cX9_placeOf 25 = .ok (.iconst 4, 1) := by decide +kernel
theorem dX9_placeOf_26 : decode cX9_placeOf 26 = .ok (.iadd, 1) := by decide +kernel
theorem dX9_placeOf_27 : decode cX9_placeOf 27 = .ok (.iload_n 3, 1) := by decide +kernel
theorem dX9_placeOf_28 : decode cX9_placeOf 28 = .ok (.iadd, 1) := by decide +kernel
theorem dX9_placeOf_29 : decode cX9_placeOf 29 = .ok (.iaload, 1) := by decide +kernel
theorem dX9_placeOf_30 : decode cX9_placeOf 30 = .ok (.iload_n 2, 1) := by decide +kernel
theorem dX9_placeOf_31 : decode cX9_placeOf 31 = .ok (.if_icmp .ne 5, 3) := by decide +kernel
theorem dX9_placeOf_34 : decode cX9_placeOf 34 = .ok (.iload_n 3, 1) := by decide +kernel
theorem dX9_placeOf_35 : decode cX9_placeOf 35 = .ok (.ireturn, 1) := by decide +kernel
theorem dX9_placeOf_36 : decode cX9_placeOf 36 = .ok (.iinc 3 1, 3) := by decide +kernel
theorem dX9_placeOf_39 : decode cX9_placeOf 39 = .ok (.goto (-37), 3) := by decide +kernel
theorem dX9_placeOf_42 : decode cX9_placeOf 42 = .ok (.ldc 74, 2) := by decide +kernel
theorem dX9_placeOf_44 : decode cX9_placeOf 44 = .ok (.ireturn, 1) := by decide +kernel
theorem dX9_come_0 : decode cX9_come 0 = .ok (.bipush 12, 2) := by decide +kernel
theorem dX9_come_2 : decode cX9_come 2 = .ok (.iload_n 1, 1) := by decide +kernel
theorem dX9_come_3 : decode cX9_come 3 = .ok (.imul, 1) := by decide +kernel
theorem dX9_come_4 : decode cX9_come 4 = .ok (.istore_n 3, 1) := by decide +kernel
theorem dX9_come_5 : decode cX9_come 5 = .ok (.iload_n 2, 1) := by decide +kernel
theorem dX9_come_6 : decode cX9_come 6 = .ok (.sipush 1000, 3) := by decide +kernel
theorem dX9_come_9 : decode cX9_come 9 = .ok (.if_icmp .ne 16, 3) := by decide +kernel
theorem dX9_come_12 : decode cX9_come 12 = .ok (.aload_n 0, 1) := by decide +kernel
theorem dX9_come_13 : decode cX9_come 13 = .ok (.getfield 16, 3) := by decide +kernel
theorem dX9_come_16 : decode cX9_come 16 = .ok (.iload_n 3, 1) := by decide +kernel
theorem dX9_come_17 : decode cX9_come 17 = .ok (.iconst 2, 1) := by decide +kernel
theorem dX9_come_18 : decode cX9_come 18 = .ok (.iadd, 1) := by decide +kernel
theorem dX9_come_19 : decode cX9_come 19 = .ok (.dup2, 1) := by decide +kernel
theorem dX9_come_20 : decode cX9_come 20 = .ok (.iaload, 1) := by decide +kernel
theorem dX9_come_21 : decode cX9_come 21 = .ok (.iconst 1, 1) := by decide +kernel
theorem dX9_come_22 : decode cX9_come 22 = .ok (.iadd, 1) := by decide +kernel
theorem dX9_come_23 : decode cX9_come 23 = .ok (.iastore, 1) := by decide +kernel
theorem dX9_come_24 : decode cX9_come 24 = .ok (.return_, 1) := by decide +kernel
theorem dX9_come_25 : decode cX9_come 25 = .ok (.aload_n 0, 1) := by decide +kernel
theorem dX9_come_26 : decode cX9_come 26 = .ok (.getfield 16, 3) := by decide +kernel
theorem dX9_come_29 : decode cX9_come 29 = .ok (.iload_n 3, 1) := by decide +kernel
theorem dX9_come_30 : decode cX9_come 30 = .ok (.aload_n 0, 1) := by decide +kernel
theorem dX9_come_31 : decode cX9_come 31 = .ok (.getfield 16, 3) := by decide +kernel
theorem dX9_come_34 : decode cX9_come 34 = .ok (.iload_n 3, 1) := by decide +kernel
theorem dX9_come_35 : decode cX9_come 35 = .ok (.iaload, 1) := by decide +kernel
theorem dX9_come_36 : decode cX9_come 36 = .ok (.ldc 74, 2) := by decide +kernel
theorem dX9_come_38 : decode cX9_come 38 = .ok (.if_icmp .eq 13, 3) := by decide +kernel
theorem dX9_come_41 : decode cX9_come 41 = .ok (.iload_n 2, 1) := by decide +kernel
theorem dX9_come_42 : decode cX9_come 42 = .ok (.aload_n 0, 1) := by decide +kernel
theorem dX9_come_43 : decode cX9_come 43 = .ok (.getfield 16, 3) := by decide +kernel
theorem dX9_come_46 : decode cX9_come 46 = .ok (.iload_n 3, 1) := by decide +kernel
theorem dX9_come_47 : decode cX9_come 47 = .ok (.iaload, 1) := by decide +kernel
theorem dX9_come_48 : decode cX9_come 48 = .ok (.if_icmp .ge 7, 3) := by decide +kernel
theorem dX9_come_51 : decode cX9_come 51 = .ok (.iload_n 2, 1) := by decide +kernel
theorem dX9_come_52 : decode cX9_come 52 = .ok (.goto 9, 3) := by decide +kernel
theorem dX9_come_55 : decode cX9_come 55 = .ok (.aload_n 0, 1) := by decide +kernel
theorem dX9_come_56 : decode cX9_come 56 = .ok (.getfield 16, 3) := by decide +kernel
theorem dX9_come_59 : decode cX9_come 59 = .ok (.iload_n 3, 1) := by decide +kernel
theorem dX9_come_60 : decode cX9_come 60 = .ok (.iaload, 1) := by decide +kernel
theorem dX9_come_61 : decode cX9_come 61 = .ok (.iastore, 1) := by decide +kernel
theorem dX9_come_62 : decode cX9_come 62 = .ok (.aload_n 0, 1) := by decide +kernel
theorem dX9_come_63 : decode cX9_come 63 = .ok (.getfield 16, 3) := by decide +kernel
theorem dX9_come_66 : decode cX9_come 66 = .ok (.iload_n 3, 1) := by decide +kernel
theorem dX9_come_67 : decode cX9_come 67 = .ok (.iconst 1, 1) := by decide +kernel
theorem dX9_come_68 : decode cX9_come 68 = .ok (.iadd, 1) := by decide +kernel
theorem dX9_come_69 : decode cX9_come 69 = .ok (.aload_n 0, 1) := by decide +kernel
theorem dX9_come_70 : decode cX9_come 70 = .ok (.getfield 16, 3) := by decide +kernel
theorem dX9_come_73 : decode cX9_come 73 = .ok (.iload_n 3, 1) := by decide +kernel
theorem dX9_come_74 : decode cX9_come 74 = .ok (.iconst 1, 1) := by decide +kernel
theorem dX9_come_75 : decode cX9_come 75 = .ok (.iadd, 1) := by decide +kernel
theorem dX9_come_76 : decode cX9_come 76 = .ok (.iaload, 1) := by decide +kernel
theorem dX9_come_77 : decode cX9_come 77 = .ok (.ldc 74, 2) := by decide +kernel
theorem dX9_come_79 : decode cX9_come 79 = .ok (.if_icmp .eq 15, 3) := by decide +kernel
theorem dX9_come_82 : decode cX9_come 82 = .ok (.iload_n 2, 1) := by decide +kernel
theorem dX9_come_83 : decode cX9_come 83 = .ok (.aload_n 0, 1) := by decide +kernel
theorem dX9_come_84 : decode cX9_come 84 = .ok (.getfield 16, 3) := by decide +kernel
theorem dX9_come_87 : decode cX9_come 87 = .ok (.iload_n 3, 1) := by decide +kernel
theorem dX9_come_88 : decode cX9_come 88 = .ok (.iconst 1, 1) := by decide +kernel
theorem dX9_come_89 : decode cX9_come 89 = .ok (.iadd, 1) := by decide +kernel
theorem dX9_come_90 : decode cX9_come 90 = .ok (.iaload, 1) := by decide +kernel
theorem dX9_come_91 : decode cX9_come 91 = .ok (.if_icmp .le 7, 3) := by decide +kernel
theorem dX9_come_94 : decode cX9_come 94 = .ok (.iload_n 2, 1) := by decide +kernel
theorem dX9_come_95 : decode cX9_come 95 = .ok (.goto 11, 3) := by decide +kernel
theorem dX9_come_98 : decode cX9_come 98 = .ok (.aload_n 0, 1) := by decide +kernel
theorem dX9_come_99 : decode cX9_come 99 = .ok (.getfield 16, 3) := by decide +kernel
theorem dX9_come_102 : decode cX9_come 102 = .ok (.iload_n 3, 1) := by decide +kernel
theorem dX9_come_103 : decode cX9_come 103 = .ok (.iconst 1, 1) := by decide +kernel
theorem dX9_come_104 : decode cX9_come 104 = .ok (.iadd, 1) := by decide +kernel
theorem dX9_come_105 : decode cX9_come 105 = .ok (.iaload, 1) := by decide +kernel
theorem dX9_come_106 : decode cX9_come 106 = .ok (.iastore, 1) := by decide +kernel
theorem dX9_come_107 : decode cX9_come 107 = .ok (.aload_n 0, 1) := by decide +kernel
theorem dX9_come_108 : decode cX9_come 108 = .ok (.getfield 16, 3) := by decide +kernel
theorem dX9_come_111 : decode cX9_come 111 = .ok (.iload_n 3, 1) := by decide +kernel
theorem dX9_come_112 : decode cX9_come 112 = .ok (.iconst 3, 1) := by decide +kernel
theorem dX9_come_113 : decode cX9_come 113 = .ok (.iadd, 1) := by decide +kernel
theorem dX9_come_114 : decode cX9_come 114 = .ok (.iaload, 1) := by decide +kernel
theorem dX9_come_115 : decode cX9_come 115 = .ok (.ifCond .ge 4, 3) := by decide +kernel
theorem dX9_come_118 : decode cX9_come 118 = .ok (.return_, 1) := by decide +kernel
theorem dX9_come_119 : decode cX9_come 119 = .ok (.aload_n 0, 1) := by decide +kernel
theorem dX9_come_120 : decode cX9_come 120 = .ok (.iload_n 1, 1) := by decide +kernel
theorem dX9_come_121 : decode cX9_come 121 = .ok (.iload_n 2, 1) := by decide +kernel
theorem dX9_come_122 : decode cX9_come 122 = .ok (.invokevirtual 75, 3) := by decide +kernel
theorem dX9_come_125 : decode cX9_come 125 = .ok (.istore 4, 2) := by decide +kernel
theorem dX9_come_127 : decode cX9_come 127 = .ok (.iload 4, 2) := by decide +kernel
theorem dX9_come_129 : decode cX9_come 129 = .ok (.ifCond .lt 22, 3) := by decide +kernel
theorem dX9_come_132 : decode cX9_come 132 = .ok (.aload_n 0, 1) := by decide +kernel
theorem dX9_come_133 : decode cX9_come 133 = .ok (.getfield 16, 3) := by decide +kernel
theorem dX9_come_136 : decode cX9_come 136 = .ok (.iload_n 3, 1) := by decide +kernel
theorem dX9_come_137 : decode cX9_come 137 = .ok (.bipush 8, 2) := by decide +kernel
theorem dX9_come_139 : decode cX9_come 139 = .ok (.iadd, 1) := by decide +kernel
theorem dX9_come_140 : decode cX9_come 140 = .ok (.iload 4, 2) := by decide +kernel
theorem dX9_come_142 : decode cX9_come 142 = .ok (.iadd, 1) := by decide +kernel
theorem dX9_come_143 : decode cX9_come 143 = .ok (.dup2, 1) := by decide +kernel
theorem dX9_come_144 : decode cX9_come 144 = .ok (.iaload, 1) := by decide +kernel
theorem dX9_come_145 : decode cX9_come 145 = .ok (.iconst 1, 1) := by decide +kernel
theorem dX9_come_146 : decode cX9_come 146 = .ok (.iadd, 1) := by decide +kernel
theorem dX9_come_147 : decode cX9_come 147 = .ok (.iastore, 1) := by decide +kernel
theorem dX9_come_148 : decode cX9_come 148 = .ok (.goto 76, 3) := by decide +kernel
theorem dX9_come_151 : decode cX9_come 151 = .ok (.aload_n 0, 1) := by decide +kernel
theorem dX9_come_152 : decode cX9_come 152 = .ok (.getfield 16, 3) := by decide +kernel
theorem dX9_come_155 : decode cX9_come 155 = .ok (.iload_n 3, 1) := by decide +kernel
theorem dX9_come_156 : decode cX9_come 156 = .ok (.iconst 3, 1) := by decide +kernel
theorem dX9_come_157 : decode cX9_come 157 = .ok (.iadd, 1) := by decide +kernel
theorem dX9_come_158 : decode cX9_come 158 = .ok (.iaload, 1) := by decide +kernel
theorem dX9_come_159 : decode cX9_come 159 = .ok (.iconst 4, 1) := by decide +kernel
theorem dX9_come_160 : decode cX9_come 160 = .ok (.if_icmp .ne 15, 3) := by decide +kernel
theorem dX9_come_163 : decode cX9_come 163 = .ok (.aload_n 0, 1) := by decide +kernel
theorem dX9_come_164 : decode cX9_come 164 = .ok (.getfield 16, 3) := by decide +kernel
theorem dX9_come_167 : decode cX9_come 167 = .ok (.iload_n 3, 1) := by decide +kernel
theorem dX9_come_168 : decode cX9_come 168 = .ok (.iconst 3, 1) := by decide +kernel
theorem dX9_come_169 : decode cX9_come 169 = .ok (.iadd, 1) := by decide +kernel
theorem dX9_come_170 : decode cX9_come 170 = .ok (.iconst (-1), 1) := by decide +kernel
theorem dX9_come_171 : decode cX9_come 171 = .ok (.iastore, 1) := by decide +kernel
theorem dX9_come_172 : decode cX9_come 172 = .ok (.goto 52, 3) := by decide +kernel
theorem dX9_come_175 : decode cX9_come 175 = .ok (.aload_n 0, 1) := by decide +kernel
theorem dX9_come_176 : decode cX9_come 176 = .ok (.getfield 16, 3) := by decide +kernel
theorem dX9_come_179 : decode cX9_come 179 = .ok (.iload_n 3, 1) := by decide +kernel
theorem dX9_come_180 : decode cX9_come 180 = .ok (.iconst 4, 1) := by decide +kernel
theorem dX9_come_181 : decode cX9_come 181 = .ok (.iadd, 1) := by decide +kernel
theorem dX9_come_182 : decode cX9_come 182 = .ok (.aload_n 0, 1) := by decide +kernel
theorem dX9_come_183 : decode cX9_come 183 = .ok (.getfield 16, 3) := by decide +kernel
theorem dX9_come_186 : decode cX9_come 186 = .ok (.iload_n 3, 1) := by decide +kernel
theorem dX9_come_187 : decode cX9_come 187 = .ok (.iconst 3, 1) := by decide +kernel
theorem dX9_come_188 : decode cX9_come 188 = .ok (.iadd, 1) := by decide +kernel
theorem dX9_come_189 : decode cX9_come 189 = .ok (.iaload, 1) := by decide +kernel
theorem dX9_come_190 : decode cX9_come 190 = .ok (.iadd, 1) := by decide +kernel
theorem dX9_come_191 : decode cX9_come 191 = .ok (.iload_n 2, 1) := by decide +kernel
theorem dX9_come_192 : decode cX9_come 192 = .ok (.iastore, 1) := by decide +kernel
theorem dX9_come_193 : decode cX9_come 193 = .ok (.aload_n 0, 1) := by decide +kernel
theorem dX9_come_194 : decode cX9_come 194 = .ok (.getfield 16, 3) := by decide +kernel
theorem dX9_come_197 : decode cX9_come 197 = .ok (.iload_n 3, 1) := by decide +kernel
theorem dX9_come_198 : decode cX9_come 198 = .ok (.bipush 8, 2) := by decide +kernel
theorem dX9_come_200 : decode cX9_come 200 = .ok (.iadd, 1) := by decide +kernel
theorem dX9_come_201 : decode cX9_come 201 = .ok (.aload_n 0, 1) := by decide +kernel
theorem dX9_come_202 : decode cX9_come 202 = .ok (.getfield 16, 3) := by decide +kernel
theorem dX9_come_205 : decode cX9_come 205 = .ok (.iload_n 3, 1) := by decide +kernel
theorem dX9_come_206 : decode cX9_come 206 = .ok (.iconst 3, 1) := by decide +kernel
theorem dX9_come_207 : decode cX9_come 207 = .ok (.iadd, 1) := by decide +kernel
theorem dX9_come_208 : decode cX9_come 208 = .ok (.iaload, 1) := by decide +kernel
theorem dX9_come_209 : decode cX9_come 209 = .ok (.iadd, 1) := by decide +kernel
theorem dX9_come_210 : decode cX9_come 210 = .ok (.iconst 1, 1) := by decide +kernel
theorem dX9_come_211 : decode cX9_come 211 = .ok (.iastore, 1) := by decide +kernel
theorem dX9_come_212 : decode cX9_come 212 = .ok (.aload_n 0, 1) := by decide +kernel
theorem dX9_come_213 : decode cX9_come 213 = .ok (.getfield 16, 3) := by decide +kernel
theorem dX9_come_216 : decode cX9_come 216 = .ok (.iload_n 3, 1) := by decide +kernel
theorem dX9_come_217 : decode cX9_come 217 = .ok (.iconst 3, 1) := by decide +kernel
theorem dX9_come_218 : decode cX9_come 218 = .ok (.iadd, 1) := by decide +kernel
theorem dX9_come_219 : decode cX9_come 219 = .ok (.dup2, 1) := by decide +kernel
theorem dX9_come_220 : decode cX9_come 220 = .ok (.iaload, 1) := by decide +kernel
theorem dX9_come_221 : decode cX9_come 221 = .ok (.iconst 1, 1) := by decide +kernel
theorem dX9_come_222 : decode cX9_come 222 = .ok (.iadd, 1) := by decide +kernel
theorem dX9_come_223 : decode cX9_come 223 = .ok (.iastore, 1) := by decide +kernel
theorem dX9_come_224 : decode cX9_come 224 = .ok (.return_, 1) := by decide +kernel
theorem dX9_add_0 : decode cX9_add 0 = .ok (.iload_n 1, 1) := by decide +kernel
theorem dX9_add_1 : decode cX9_add 1 = .ok (.invokestatic 70, 3) := by decide +kernel
theorem dX9_add_4 : decode cX9_add 4 = .ok (.ifCond .ne 5, 3) := by decide +kernel
theorem dX9_add_7 : decode cX9_add 7 = .ok (.iconst (-1), 1) := by decide +kernel
theorem dX9_add_8 : decode cX9_add 8 = .ok (.ireturn, 1) := by decide +kernel
theorem dX9_add_9 : decode cX9_add 9 = .ok (.iload_n 2, 1) := by decide +kernel
theorem dX9_add_10 : decode cX9_add 10 = .ok (.sipush (-999), 3) := by decide +kernel
theorem dX9_add_13 : decode cX9_add 13 = .ok (.sipush 1000, 3) := by decide +kernel
theorem dX9_add_16 : decode cX9_add 16 = .ok (.invokestatic 66, 3) := by decide +kernel
theorem dX9_add_19 : decode cX9_add 19 = .ok (.ifCond .eq 44, 3) := by decide +kernel
theorem dX9_add_22 : decode cX9_add 22 = .ok (.iload_n 3, 1) := by decide +kernel
theorem dX9_add_23 : decode cX9_add 23 = .ok (.sipush (-999), 3) := by decide +kernel
theorem dX9_add_26 : decode cX9_add 26 = .ok (.sipush 1000, 3) := by decide +kernel
theorem dX9_add_29 : decode cX9_add 29 = .ok (.invokestatic 66, 3) := by decide +kernel
theorem dX9_add_32 : decode cX9_add 32 = .ok (.ifCond .eq 31, 3) := by decide +kernel
theorem dX9_add_35 : decode cX9_add 35 = .ok (.iload 4, 2) := by decide +kernel
theorem dX9_add_37 : decode cX9_add 37 = .ok (.sipush (-999), 3) := by decide +kernel
theorem dX9_add_40 : decode cX9_add 40 = .ok (.sipush 1000, 3) := by decide +kernel
theorem dX9_add_43 : decode cX9_add 43 = .ok (.invokestatic 66, 3) := by decide +kernel
theorem dX9_add_46 : decode cX9_add 46 = .ok (.ifCond .eq 17, 3) := by decide +kernel
theorem dX9_add_49 : decode cX9_add 49 = .ok (.iload 5, 2) := by decide +kernel
theorem dX9_add_51 : decode cX9_add 51 = .ok (.sipush (-999), 3) := by decide +kernel
theorem dX9_add_54 : decode cX9_add 54 = .ok (.sipush 1000, 3) := by decide +kernel
theorem dX9_add_57 : decode cX9_add 57 = .ok (.invokestatic 66, 3) := by decide +kernel
theorem dX9_add_60 : decode cX9_add 60 = .ok (.ifCond .ne 6, 3) := by decide +kernel
theorem dX9_add_63 : decode cX9_add 63 = .ok (.bipush (-2), 2) := by decide +kernel
theorem dX9_add_65 : decode cX9_add 65 = .ok (.ireturn, 1) := by decide +kernel
theorem dX9_add_66 : decode cX9_add 66 = .ok (.aload_n 0, 1) := by decide +kernel
theorem dX9_add_67 : decode cX9_add 67 = .ok (.getfield 13, 3) := by decide +kernel
theorem dX9_add_70 : decode cX9_add 70 = .ok (.iload_n 1, 1) := by decide +kernel
theorem dX9_add_71 : decode cX9_add 71 = .ok (.iaload, 1) := by decide +kernel
theorem dX9_add_72 : decode cX9_add 72 = .ok (.bipush 8, 2) := by decide +kernel
theorem dX9_add_74 : decode cX9_add 74 = .ok (.if_icmp .ne 6, 3) := by decide +kernel
theorem dX9_add_77 : decode cX9_add 77 = .ok (.bipush (-4), 2) := by decide +kernel
theorem dX9_add_79 : decode cX9_add 79 = .ok (.ireturn, 1) := by decide +kernel
theorem dX9_add_80 : decode cX9_add 80 = .ok (.iconst 0, 1) := by decide +kernel
theorem dX9_add_81 : decode cX9_add 81 = .ok (.istore 6, 2) := by decide +kernel
theorem dX9_add_83 : decode cX9_add 83 = .ok (.iload 6, 2) := by decide +kernel
theorem dX9_add_85 : decode cX9_add 85 = .ok (.iconst 4, 1) := by decide +kernel
theorem dX9_add_86 : decode cX9_add 86 = .ok (.if_icmp .ge 78, 3) := by decide +kernel
theorem dX9_add_89 : decode cX9_add 89 = .ok (.iload 6, 2) := by decide +kernel
theorem dX9_add_91 : decode cX9_add 91 = .ok (.ifCond .ne 7, 3) := by decide +kernel
theorem dX9_add_94 : decode cX9_add 94 = .ok (.iload_n 2, 1) := by decide +kernel
theorem dX9_add_95 : decode cX9_add 95 = .ok (.goto 26, 3) := by decide +kernel
theorem dX9_add_98 : decode cX9_add 98 = .ok (.iload 6, 2) := by decide +kernel
theorem dX9_add_100 : decode cX9_add 100 = .ok (.iconst 1, 1) := by decide +kernel
theorem dX9_add_101 : decode cX9_add 101 = .ok (.if_icmp .ne 7, 3) := by decide +kernel
theorem dX9_add_104 : decode cX9_add 104 = .ok (.iload_n 3, 1) := by decide +kernel
theorem dX9_add_105 : decode cX9_add 105 = .ok (.goto 16, 3) := by decide +kernel
theorem dX9_add_108 : decode cX9_add 108 = .ok (.iload 6, 2) := by decide +kernel
theorem dX9_add_110 : decode cX9_add 110 = .ok (.iconst 2, 1) := by decide +kernel
theorem dX9_add_111 : decode cX9_add 111 = .ok (.if_icmp .ne 8, 3) := by decide +kernel
theorem dX9_add_114 : decode cX9_add 114 = .ok (.iload 4, 2) := by decide +kernel
theorem dX9_add_116 : decode cX9_add 116 = .ok (.goto 5, 3) := by decide +kernel
theorem dX9_add_119 : decode cX9_add 119 = .ok (.iload 5, 2) := by decide +kernel
theorem dX9_add_121 : decode cX9_add 121 = .ok (.istore 7, 2) := by decide +kernel
theorem dX9_add_123 : decode cX9_add 123 = .ok (.aload_n 0, 1) := by decide +kernel
theorem dX9_add_124 : decode cX9_add 124 = .ok (.getfield 7, 3) := by decide +kernel
theorem dX9_add_127 : decode cX9_add 127 = .ok (.bipush 32, 2) := by decide +kernel
theorem dX9_add_129 : decode cX9_add 129 = .ok (.iload_n 1, 1) := by decide +kernel
theorem dX9_add_130 : decode cX9_add 130 = .ok (.imul, 1) := by decide +kernel
theorem dX9_add_131 : decode cX9_add 131 = .ok (.iconst 4, 1) := by decide +kernel
theorem dX9_add_132 : decode cX9_add 132 = .ok (.aload_n 0, 1) := by decide +kernel
theorem dX9_add_133 : decode cX9_add 133 = .ok (.getfield 13, 3) := by decide +kernel
theorem dX9_add_136 : decode cX9_add 136 = .ok (.iload_n 1, 1) := by decide +kernel
theorem dX9_add_137 : decode cX9_add 137 = .ok (.iaload, 1) := by decide +kernel
theorem dX9_add_138 : decode cX9_add 138 = .ok (.imul, 1) := by decide +kernel
theorem dX9_add_139 : decode cX9_add 139 = .ok (.iadd, 1) := by decide +kernel
theorem dX9_add_140 : decode cX9_add 140 = .ok (.iload 6, 2) := by decide +kernel
theorem dX9_add_142 : decode cX9_add 142 = .ok (.iadd, 1) := by decide +kernel
theorem dX9_add_143 : decode cX9_add 143 = .ok (.iload 7, 2) := by decide +kernel
theorem dX9_add_145 : decode cX9_add 145 = .ok (.iastore, 1) := by decide +kernel
theorem dX9_add_146 : decode cX9_add 146 = .ok (.aload_n 0, 1) := by decide +kernel
theorem dX9_add_147 : decode cX9_add 147 = .ok (.iconst 4, 1) := by decide +kernel
theorem dX9_add_148 : decode cX9_add 148 = .ok (.iload_n 1, 1) := by decide +kernel
theorem dX9_add_149 : decode cX9_add 149 = .ok (.imul, 1) := by decide +kernel
theorem dX9_add_150 : decode cX9_add 150 = .ok (.iload 6, 2) := by decide +kernel
theorem dX9_add_152 : decode cX9_add 152 = .ok (.iadd, 1) := by decide +kernel
theorem dX9_add_153 : decode cX9_add 153 = .ok (.iload 7, 2) := by decide +kernel
theorem dX9_add_155 : decode cX9_add 155 = .ok (.invokevirtual 79, 3) := by decide +kernel
theorem dX9_add_158 : decode cX9_add 158 = .ok (.iinc 6 1, 3) := by decide +kernel
theorem dX9_add_161 : decode cX9_add 161 = .ok (.goto (-78), 3) := by decide +kernel
theorem dX9_add_164 : decode cX9_add 164 = .ok (.aload_n 0, 1) := by decide +kernel
theorem dX9_add_165 : decode cX9_add 165 = .ok (.getfield 13, 3) := by decide +kernel
theorem dX9_add_168 : decode cX9_add 168 = .ok (.iload_n 1, 1) := by decide +kernel
theorem dX9_add_169 : decode cX9_add 169 = .ok (.dup2, 1) := by decide +kernel
theorem dX9_add_170 : decode cX9_add 170 = .ok (.iaload, 1) := by decide +kernel
theorem dX9_add_171 : decode cX9_add 171 = .ok (.iconst 1, 1) := by decide +kernel
theorem dX9_add_172 : decode cX9_add 172 = .ok (.iadd, 1) := by decide +kernel
theorem dX9_add_173 : decode cX9_add 173 = .ok (.iastore, 1) := by decide +kernel
theorem dX9_add_174 : decode cX9_add 174 = .ok (.aload_n 0, 1) := by decide +kernel
theorem dX9_add_175 : decode cX9_add 175 = .ok (.getfield 13, 3) := by decide +kernel
theorem dX9_add_178 : decode cX9_add 178 = .ok (.iload_n 1, 1) := by decide +kernel
theorem dX9_add_179 : decode cX9_add 179 = .ok (.iaload, 1) := by decide +kernel
theorem dX9_add_180 : decode cX9_add 180 = .ok (.ireturn, 1) := by decide +kernel
theorem dX9_drop_0 : decode cX9_drop 0 = .ok (.aload_n 0, 1) := by decide +kernel
theorem dX9_drop_1 : decode cX9_drop 1 = .ok (.iload_n 1, 1) := by decide +kernel
theorem dX9_drop_2 : decode cX9_drop 2 = .ok (.iload_n 2, 1) := by decide +kernel
theorem dX9_drop_3 : decode cX9_drop 3 = .ok (.invokevirtual 83, 3) := by decide +kernel
theorem dX9_drop_6 : decode cX9_drop 6 = .ok (.ifCond .ne 5, 3) := by decide +kernel
theorem dX9_drop_9 : decode cX9_drop 9 = .ok (.iconst (-1), 1) := by decide +kernel
theorem dX9_drop_10 : decode cX9_drop 10 = .ok (.ireturn, 1) := by decide +kernel
theorem dX9_drop_11 : decode cX9_drop 11 = .ok (.iconst 0, 1) := by decide +kernel
theorem dX9_drop_12 : decode cX9_drop 12 = .ok (.istore_n 3, 1) := by decide +kernel
theorem dX9_drop_13 : decode cX9_drop 13 = .ok (.iload_n 3, 1) := by decide +kernel
theorem dX9_drop_14 : decode cX9_drop 14 = .ok (.iconst 4, 1) := by decide +kernel
theorem dX9_drop_15 : decode cX9_drop 15 = .ok (.if_icmp .ge 93, 3) := by decide +kernel
theorem dX9_drop_18 : decode cX9_drop 18 = .ok (.iconst 4, 1) := by decide +kernel
theorem dX9_drop_19 : decode cX9_drop 19 = .ok (.iload_n 1, 1) := by decide +kernel
theorem dX9_drop_20 : decode cX9_drop 20 = .ok (.imul, 1) := by decide +kernel
theorem dX9_drop_21 : decode cX9_drop 21 = .ok (.iload_n 3, 1) := by decide +kernel
theorem dX9_drop_22 : decode cX9_drop 22 = .ok (.iadd, 1) := by decide +kernel
theorem dX9_drop_23 : decode cX9_drop 23 = .ok (.istore 4, 2) := by decide +kernel
theorem dX9_drop_25 : decode cX9_drop 25 = .ok (.aload_n 0, 1) := by decide +kernel
theorem dX9_drop_26 : decode cX9_drop 26 = .ok (.iload_n 1, 1) := by decide +kernel
theorem dX9_drop_27 : decode cX9_drop 27 = .ok (.iload_n 2, 1) := by decide +kernel
theorem dX9_drop_28 : decode cX9_drop 28 = .ok (.iload_n 3, 1) := by decide +kernel
theorem dX9_drop_29 : decode cX9_drop 29 = .ok (.invokevirtual 87, 3) := by decide +kernel
theorem dX9_drop_32 : decode cX9_drop 32 = .ok (.istore 5, 2) := by decide +kernel
theorem dX9_drop_34 : decode cX9_drop 34 = .ok (.iload 5, 2) := by decide +kernel
theorem dX9_drop_36 : decode cX9_drop 36 = .ok (.sipush 1000, 3) := by decide +kernel
theorem dX9_drop_39 : decode cX9_drop 39 = .ok (.if_icmp .ne 22, 3) := by decide +kernel
theorem dX9_drop_42 : decode cX9_drop 42 = .ok (.aload_n 0, 1) := by decide +kernel
theorem dX9_drop_43 : decode cX9_drop 43 = .ok (.getfield 16, 3) := by decide +kernel
theorem dX9_drop_46 : decode cX9_drop 46 = .ok (.bipush 12, 2) := by decide +kernel
theorem dX9_drop_48 : decode cX9_drop 48 = .ok (.iload 4, 2) := by decide +kernel
theorem dX9_drop_50 : decode cX9_drop 50 = .ok (.imul, 1) := by decide +kernel
theorem dX9_drop_51 : decode cX9_drop 51 = .ok (.iconst 2, 1) := by decide +kernel
theorem dX9_drop_52 : decode cX9_drop 52 = .ok (.iadd, 1) := by decide +kernel
theorem dX9_drop_53 : decode cX9_drop 53 = .ok (.dup2, 1) := by decide +kernel
theorem dX9_drop_54 : decode cX9_drop 54 = .ok (.iaload, 1) := by decide +kernel
theorem dX9_drop_55 : decode cX9_drop 55 = .ok (.iconst 1, 1) := by decide +kernel
theorem dX9_drop_56 : decode cX9_drop 56 = .ok (.isub, 1) := by decide +kernel
theorem dX9_drop_57 : decode cX9_drop 57 = .ok (.iastore, 1) := by decide +kernel
theorem dX9_drop_58 : decode cX9_drop 58 = .ok (.goto 44, 3) := by decide +kernel
theorem dX9_drop_61 : decode cX9_drop 61 = .ok (.aload_n 0, 1) := by decide +kernel
theorem dX9_drop_62 : decode cX9_drop 62 = .ok (.getfield 16, 3) := by decide +kernel
theorem dX9_drop_65 : decode cX9_drop 65 = .ok (.bipush 12, 2) := by decide +kernel
theorem dX9_drop_67 : decode cX9_drop 67 = .ok (.iload 4, 2) := by decide +kernel
theorem dX9_drop_69 : decode cX9_drop 69 = .ok (.imul, 1) := by decide +kernel
theorem dX9_drop_70 : decode cX9_drop 70 = .ok (.iconst 3, 1) := by decide +kernel
theorem dX9_drop_71 : decode cX9_drop 71 = .ok (.iadd, 1) := by decide +kernel
theorem dX9_drop_72 : decode cX9_drop 72 = .ok (.iaload, 1) := by decide +kernel
theorem dX9_drop_73 : decode cX9_drop 73 = .ok (.ifCond .lt 29, 3) := by decide +kernel
theorem dX9_drop_76 : decode cX9_drop 76 = .ok (.aload_n 0, 1) := by decide +kernel
theorem dX9_drop_77 : decode cX9_drop 77 = .ok (.getfield 16, 3) := by decide +kernel
theorem dX9_drop_80 : decode cX9_drop 80 = .ok (.bipush 12, 2) := by decide +kernel
theorem dX9_drop_82 : decode cX9_drop 82 = .ok (.iload 4, 2) := by decide +kernel
theorem dX9_drop_84 : decode cX9_drop 84 = .ok (.imul, 1) := by decide +kernel
theorem dX9_drop_85 : decode cX9_drop 85 = .ok (.bipush 8, 2) := by decide +kernel
theorem dX9_drop_87 : decode cX9_drop 87 = .ok (.iadd, 1) := by decide +kernel
theorem dX9_drop_88 : decode cX9_drop 88 = .ok (.aload_n 0, 1) := by decide +kernel
theorem dX9_drop_89 : decode cX9_drop 89 = .ok (.iload 4, 2) := by decide +kernel
theorem dX9_drop_91 : decode cX9_drop 91 = .ok (.iload 5, 2) := by decide +kernel
theorem dX9_drop_93 : decode cX9_drop 93 = .ok (.invokevirtual 75, 3) := by decide +kernel
theorem dX9_drop_96 : decode cX9_drop 96 = .ok (.iadd, 1) := by decide +kernel
theorem dX9_drop_97 : decode cX9_drop 97 = .ok (.dup2, 1) := by decide +kernel
theorem dX9_drop_98 : decode cX9_drop 98 = .ok (.iaload, 1) := by decide +kernel
theorem dX9_drop_99 : decode cX9_drop 99 = .ok (.iconst 1, 1) := by decide +kernel
theorem dX9_drop_100 : decode cX9_drop 100 = .ok (.isub, 1) := by decide +kernel
theorem dX9_drop_101 : decode cX9_drop 101 = .ok (.iastore, 1) := by decide +kernel
theorem dX9_drop_102 : decode cX9_drop 102 = .ok (.iinc 3 1, 3) := by decide +kernel
theorem dX9_drop_105 : decode cX9_drop 105 = .ok (.goto (-92), 3) := by decide +kernel
theorem dX9_drop_108 : decode cX9_drop 108 = .ok (.aload_n 0, 1) := by decide +kernel
theorem dX9_drop_109 : decode cX9_drop 109 = .ok (.getfield 13, 3) := by decide +kernel
theorem dX9_drop_112 : decode cX9_drop 112 = .ok (.iload_n 1, 1) := by decide +kernel
theorem dX9_drop_113 : decode cX9_drop 113 = .ok (.dup2, 1) := by decide +kernel
theorem dX9_drop_114 : decode cX9_drop 114 = .ok (.iaload, 1) := by decide +kernel
theorem dX9_drop_115 : decode cX9_drop 115 = .ok (.iconst 1, 1) := by decide +kernel
theorem dX9_drop_116 : decode cX9_drop 116 = .ok (.isub, 1) := by decide +kernel
theorem dX9_drop_117 : decode cX9_drop 117 = .ok (.iastore, 1) := by decide +kernel
theorem dX9_drop_118 : decode cX9_drop 118 = .ok (.bipush 32, 2) := by decide +kernel
theorem dX9_drop_120 : decode cX9_drop 120 = .ok (.iload_n 1, 1) := by decide +kernel
theorem dX9_drop_121 : decode cX9_drop 121 = .ok (.imul, 1) := by decide +kernel
theorem dX9_drop_122 : decode cX9_drop 122 = .ok (.iconst 4, 1) := by decide +kernel
theorem dX9_drop_123 : decode cX9_drop 123 = .ok (.iload_n 2, 1) := by decide +kernel
theorem dX9_drop_124 : decode cX9_drop 124 = .ok (.imul, 1) := by decide +kernel
theorem dX9_drop_125 : decode cX9_drop 125 = .ok (.iadd, 1) := by decide +kernel
theorem dX9_drop_126 : decode cX9_drop 126 = .ok (.istore_n 3, 1) := by decide +kernel
theorem dX9_drop_127 : decode cX9_drop 127 = .ok (.iload_n 3, 1) := by decide +kernel
theorem dX9_drop_128 : decode cX9_drop 128 = .ok (.bipush 32, 2) := by decide +kernel
theorem dX9_drop_130 : decode cX9_drop 130 = .ok (.iload_n 1, 1) := by decide +kernel
theorem dX9_drop_131 : decode cX9_drop 131 = .ok (.imul, 1) := by decide +kernel
theorem dX9_drop_132 : decode cX9_drop 132 = .ok (.iconst 4, 1) := by decide +kernel
theorem dX9_drop_133 : decode cX9_drop 133 = .ok (.aload_n 0, 1) := by decide +kernel
theorem dX9_drop_134 : decode cX9_drop 134 = .ok (.getfield 13, 3) := by decide +kernel
theorem dX9_drop_137 : decode cX9_drop 137 = .ok (.iload_n 1, 1) := by decide +kernel
theorem dX9_drop_138 : decode cX9_drop 138 = .ok (.iaload, 1) := by decide +kernel
theorem dX9_drop_139 : decode cX9_drop 139 = .ok (.imul, 1) := by decide +kernel
theorem dX9_drop_140 : decode cX9_drop 140 = .ok (.iadd, 1) := by decide +kernel
theorem dX9_drop_141 : decode cX9_drop 141 = .ok (.if_icmp .ge 23, 3) := by decide +kernel
theorem dX9_drop_144 : decode cX9_drop 144 = .ok (.aload_n 0, 1) := by decide +kernel
theorem dX9_drop_145 : decode cX9_drop 145 = .ok (.getfield 7, 3) := by decide +kernel
theorem dX9_drop_148 : decode cX9_drop 148 = .ok (.iload_n 3, 1) := by decide +kernel
theorem dX9_drop_149 : decode cX9_drop 149 = .ok (.aload_n 0, 1) := by decide +kernel
theorem dX9_drop_150 : decode cX9_drop 150 = .ok (.getfield 7, 3) := by decide +kernel
theorem dX9_drop_153 : decode cX9_drop 153 = .ok (.iload_n 3, 1) := by decide +kernel
theorem dX9_drop_154 : decode cX9_drop 154 = .ok (.iconst 4, 1) := by decide +kernel
theorem dX9_drop_155 : decode cX9_drop 155 = .ok (.iadd, 1) := by decide +kernel
theorem dX9_drop_156 : decode cX9_drop 156 = .ok (.iaload, 1) := by decide +kernel
theorem dX9_drop_157 : decode cX9_drop 157 = .ok (.iastore, 1) := by decide +kernel
theorem dX9_drop_158 : decode cX9_drop 158 = .ok (.iinc 3 1, 3) := by decide +kernel
theorem dX9_drop_161 : decode cX9_drop 161 = .ok (.goto (-34), 3) := by decide +kernel
theorem dX9_drop_164 : decode cX9_drop 164 = .ok (.aload_n 0, 1) := by decide +kernel
theorem dX9_drop_165 : decode cX9_drop 165 = .ok (.getfield 13, 3) := by decide +kernel
theorem dX9_drop_168 : decode cX9_drop 168 = .ok (.iload_n 1, 1) := by decide +kernel
theorem dX9_drop_169 : decode cX9_drop 169 = .ok (.iaload, 1) := by decide +kernel
theorem dX9_drop_170 : decode cX9_drop 170 = .ok (.ireturn, 1) := by decide +kernel
theorem dX9_makeAnew_0 : decode cX9_makeAnew 0 = .ok (.aload_n 0, 1) := by decide +kernel
theorem dX9_makeAnew_1 : decode cX9_makeAnew 1 = .ok (.iconst 4, 1) := by decide +kernel
theorem dX9_makeAnew_2 : decode cX9_makeAnew 2 = .ok (.iload_n 1, 1) := by decide +kernel
theorem dX9_makeAnew_3 : decode cX9_makeAnew 3 = .ok (.imul, 1) := by decide +kernel
theorem dX9_makeAnew_4 : decode cX9_makeAnew 4 = .ok (.iload_n 2, 1) := by decide +kernel
theorem dX9_makeAnew_5 : decode cX9_makeAnew 5 = .ok (.iadd, 1) := by decide +kernel
theorem dX9_makeAnew_6 : decode cX9_makeAnew 6 = .ok (.invokevirtual 62, 3) := by decide +kernel
theorem dX9_makeAnew_9 : decode cX9_makeAnew 9 = .ok (.iconst 0, 1) := by decide +kernel
theorem dX9_makeAnew_10 : decode cX9_makeAnew 10 = .ok (.istore_n 3, 1) := by decide +kernel
theorem dX9_makeAnew_11 : decode cX9_makeAnew 11 = .ok (.iload_n 3, 1) := by decide +kernel
theorem dX9_makeAnew_12 : decode cX9_makeAnew 12 = .ok (.aload_n 0, 1) := by decide +kernel
theorem dX9_makeAnew_13 : decode cX9_makeAnew 13 = .ok (.getfield 13, 3) := by decide +kernel
theorem dX9_makeAnew_16 : decode cX9_makeAnew 16 = .ok (.iload_n 1, 1) := by decide +kernel
theorem dX9_makeAnew_17 : decode cX9_makeAnew 17 = .ok (.iaload, 1) := by decide +kernel
theorem dX9_makeAnew_18 : decode cX9_makeAnew 18 = .ok (.if_icmp .ge 25, 3) := by decide +kernel
theorem dX9_makeAnew_21 : decode cX9_makeAnew 21 = .ok (.aload_n 0, 1) := by decide +kernel
theorem dX9_makeAnew_22 : decode cX9_makeAnew 22 = .ok (.iconst 4, 1) := by decide +kernel
theorem dX9_makeAnew_23 : decode cX9_makeAnew 23 = .ok (.iload_n 1, 1) := by decide +kernel
theorem dX9_makeAnew_24 : decode cX9_makeAnew 24 = .ok (.imul, 1) := by decide +kernel
theorem dX9_makeAnew_25 : decode cX9_makeAnew 25 = .ok (.iload_n 2, 1) := by decide +kernel
theorem dX9_makeAnew_26 : decode cX9_makeAnew 26 = .ok (.iadd, 1) := by decide +kernel
theorem dX9_makeAnew_27 : decode cX9_makeAnew 27 = .ok (.aload_n 0, 1) := by decide +kernel
theorem dX9_makeAnew_28 : decode cX9_makeAnew 28 = .ok (.iload_n 1, 1) := by decide +kernel
theorem dX9_makeAnew_29 : decode cX9_makeAnew 29 = .ok (.iload_n 3, 1) := by decide +kernel
theorem dX9_makeAnew_30 : decode cX9_makeAnew 30 = .ok (.iload_n 2, 1) := by decide +kernel
theorem dX9_makeAnew_31 : decode cX9_makeAnew 31 = .ok (.invokevirtual 87, 3) := by decide +kernel
theorem dX9_makeAnew_34 : decode cX9_makeAnew 34 = .ok (.invokevirtual 79, 3) := by decide +kernel
theorem dX9_makeAnew_37 : decode cX9_makeAnew 37 = .ok (.iinc 3 1, 3) := by decide +kernel
theorem dX9_makeAnew_40 : decode cX9_makeAnew 40 = .ok (.goto (-29), 3) := by decide +kernel
theorem dX9_makeAnew_43 : decode cX9_makeAnew 43 = .ok (.return_, 1) := by decide +kernel
theorem dX9_isStale_0 : decode cX9_isStale 0 = .ok (.bipush 12, 2) := by decide +kernel
theorem dX9_isStale_2 : decode cX9_isStale 2 = .ok (.iconst 4, 1) := by decide +kernel
theorem dX9_isStale_3 : decode cX9_isStale 3 = .ok (.iload_n 1, 1) := by decide +kernel
theorem dX9_isStale_4 : decode cX9_isStale 4 = .ok (.imul, 1) := by decide +kernel
theorem dX9_isStale_5 : decode cX9_isStale 5 = .ok (.iload_n 2, 1) := by decide +kernel
theorem dX9_isStale_6 : decode cX9_isStale 6 = .ok (.iadd, 1) := by decide +kernel
theorem dX9_isStale_7 : decode cX9_isStale 7 = .ok (.imul, 1) := by decide +kernel
theorem dX9_isStale_8 : decode cX9_isStale 8 = .ok (.istore_n 3, 1) := by decide +kernel
theorem dX9_isStale_9 : decode cX9_isStale 9 = .ok (.iconst 0, 1) := by decide +kernel
theorem dX9_isStale_10 : decode cX9_isStale 10 = .ok (.istore 4, 2) := by decide +kernel
theorem dX9_isStale_12 : decode cX9_isStale 12 = .ok (.iload 4, 2) := by decide +kernel
theorem dX9_isStale_14 : decode cX9_isStale 14 = .ok (.bipush 12, 2) := by decide +kernel
theorem dX9_isStale_16 : decode cX9_isStale 16 = .ok (.if_icmp .ge 25, 3) := by decide +kernel
theorem dX9_isStale_19 : decode cX9_isStale 19 = .ok (.aload_n 0, 1) := by decide +kernel
theorem dX9_isStale_20 : decode cX9_isStale 20 = .ok (.getfield 19, 3) := by decide +kernel
theorem dX9_isStale_23 : decode cX9_isStale 23 = .ok (.iload 4, 2) := by decide +kernel
theorem dX9_isStale_25 : decode cX9_isStale 25 = .ok (.aload_n 0, 1) := by decide +kernel
theorem dX9_isStale_26 : decode cX9_isStale 26 = .ok (.getfield 16, 3) := by decide +kernel
theorem dX9_isStale_29 : decode cX9_isStale 29 = .ok (.iload_n 3, 1) := by decide +kernel
theorem dX9_isStale_30 : decode cX9_isStale 30 = .ok (.iload 4, 2) := by decide +kernel
theorem dX9_isStale_32 : decode cX9_isStale 32 = .ok (.iadd, 1) := by decide +kernel
theorem dX9_isStale_33 : decode cX9_isStale 33 = .ok (.iaload, 1) := by decide +kernel
theorem dX9_isStale_34 : decode cX9_isStale 34 = .ok (.iastore, 1) := by decide +kernel
theorem dX9_isStale_35 : decode cX9_isStale 35 = .ok (.iinc 4 1, 3) := by decide +kernel
theorem dX9_isStale_38 : decode cX9_isStale 38 = .ok (.goto (-26), 3) := by decide +kernel
theorem dX9_isStale_41 : decode cX9_isStale 41 = .ok (.aload_n 0, 1) := by decide +kernel
theorem dX9_isStale_42 : decode cX9_isStale 42 = .ok (.iload_n 1, 1) := by decide +kernel
theorem dX9_isStale_43 : decode cX9_isStale 43 = .ok (.iload_n 2, 1) := by decide +kernel
theorem dX9_isStale_44 : decode cX9_isStale 44 = .ok (.invokevirtual 91, 3) := by decide +kernel
theorem dX9_isStale_47 : decode cX9_isStale 47 = .ok (.aload_n 0, 1) := by decide +kernel
theorem dX9_isStale_48 : decode cX9_isStale 48 = .ok (.getfield 19, 3) := by decide +kernel
theorem dX9_isStale_51 : decode cX9_isStale 51 = .ok (.iconst 0, 1) := by decide +kernel
theorem dX9_isStale_52 : decode cX9_isStale 52 = .ok (.iaload, 1) := by decide +kernel
theorem dX9_isStale_53 : decode cX9_isStale 53 = .ok (.aload_n 0, 1) := by decide +kernel
theorem dX9_isStale_54 : decode cX9_isStale 54 = .ok (.getfield 16, 3) := by decide +kernel
theorem dX9_isStale_57 : decode cX9_isStale 57 = .ok (.iload_n 3, 1) := by decide +kernel
theorem dX9_isStale_58 : decode cX9_isStale 58 = .ok (.iaload, 1) := by decide +kernel
theorem dX9_isStale_59 : decode cX9_isStale 59 = .ok (.if_icmp .ne 37, 3) := by decide +kernel
theorem dX9_isStale_62 : decode cX9_isStale 62 = .ok (.aload_n 0, 1) := by decide +kernel
theorem dX9_isStale_63 : decode cX9_isStale 63 = .ok (.getfield 19, 3) := by decide +kernel
theorem dX9_isStale_66 : decode cX9_isStale 66 = .ok (.iconst 1, 1) := by decide +kernel
theorem dX9_isStale_67 : decode cX9_isStale 67 = .ok (.iaload, 1) := by decide +kernel
theorem dX9_isStale_68 : decode cX9_isStale 68 = .ok (.aload_n 0, 1) := by decide +kernel
theorem dX9_isStale_69 : decode cX9_isStale 69 = .ok (.getfield 16, 3) := by decide +kernel
theorem dX9_isStale_72 : decode cX9_isStale 72 = .ok (.iload_n 3, 1) := by decide +kernel
theorem dX9_isStale_73 : decode cX9_isStale 73 = .ok (.iconst 1, 1) := by decide +kernel
theorem dX9_isStale_74 : decode cX9_isStale 74 = .ok (.iadd, 1) := by decide +kernel
theorem dX9_isStale_75 : decode cX9_isStale 75 = .ok (.iaload, 1) := by decide +kernel
theorem dX9_isStale_76 : decode cX9_isStale 76 = .ok (.if_icmp .ne 20, 3) := by decide +kernel
theorem dX9_isStale_79 : decode cX9_isStale 79 = .ok (.aload_n 0, 1) := by decide +kernel
theorem dX9_isStale_80 : decode cX9_isStale 80 = .ok (.getfield 19, 3) := by decide +kernel
theorem dX9_isStale_83 : decode cX9_isStale 83 = .ok (.iconst 3, 1) := by decide +kernel
theorem dX9_isStale_84 : decode cX9_isStale 84 = .ok (.iaload, 1) := by decide +kernel
theorem dX9_isStale_85 : decode cX9_isStale 85 = .ok (.aload_n 0, 1) := by decide +kernel
theorem dX9_isStale_86 : decode cX9_isStale 86 = .ok (.getfield 16, 3) := by decide +kernel
theorem dX9_isStale_89 : decode cX9_isStale 89 = .ok (.iload_n 3, 1) := by decide +kernel
theorem dX9_isStale_90 : decode cX9_isStale 90 = .ok (.iconst 3, 1) := by decide +kernel
theorem dX9_isStale_91 : decode cX9_isStale 91 = .ok (.iadd, 1) := by decide +kernel
theorem dX9_isStale_92 : decode cX9_isStale 92 = .ok (.iaload, 1) := by decide +kernel
theorem dX9_isStale_93 : decode cX9_isStale 93 = .ok (.if_icmp .eq 7, 3) := by decide +kernel
theorem dX9_isStale_96 : decode cX9_isStale 96 = .ok (.iconst 1, 1) := by decide +kernel
theorem dX9_isStale_97 : decode cX9_isStale 97 = .ok (.goto 4, 3) := by decide +kernel
theorem dX9_isStale_100 : decode cX9_isStale 100 = .ok (.iconst 0, 1) := by decide +kernel
theorem dX9_isStale_101 : decode cX9_isStale 101 = .ok (.istore 4, 2) := by decide +kernel
theorem dX9_isStale_103 : decode cX9_isStale 103 = .ok (.iconst 0, 1) := by decide +kernel
theorem dX9_isStale_104 : decode cX9_isStale 104 = .ok (.istore 5, 2) := by decide +kernel
theorem dX9_isStale_106 : decode cX9_isStale 106 = .ok (.iload 5, 2) := by decide +kernel
theorem dX9_isStale_108 : decode cX9_isStale 108 = .ok (.aload_n 0, 1) := by decide +kernel
theorem dX9_isStale_109 : decode cX9_isStale 109 = .ok (.getfield 19, 3) := by decide +kernel
theorem dX9_isStale_112 : decode cX9_isStale 112 = .ok (.iconst 3, 1) := by decide +kernel
theorem dX9_isStale_113 : decode cX9_isStale 113 = .ok (.iaload, 1) := by decide +kernel
theorem dX9_isStale_114 : decode cX9_isStale 114 = .ok (.if_icmp .ge 42, 3) := by decide +kernel
theorem dX9_isStale_117 : decode cX9_isStale 117 = .ok (.iload 4, 2) := by decide +kernel
theorem dX9_isStale_119 : decode cX9_isStale 119 = .ok (.ifCond .ne 37, 3) := by decide +kernel
theorem dX9_isStale_122 : decode cX9_isStale 122 = .ok (.aload_n 0, 1) := by decide +kernel
theorem dX9_isStale_123 : decode cX9_isStale 123 = .ok (.iconst 4, 1) := by decide +kernel
theorem dX9_isStale_124 : decode cX9_isStale 124 = .ok (.iload_n 1, 1) := by decide +kernel
theorem dX9_isStale_125 : decode cX9_isStale 125 = .ok (.imul, 1) := by decide +kernel
theorem dX9_isStale_126 : decode cX9_isStale 126 = .ok (.iload_n 2, 1) := by decide +kernel
theorem dX9_isStale_127 : decode cX9_isStale 127 = .ok (.iadd, 1) := by decide +kernel
theorem dX9_isStale_128 : decode cX9_isStale 128 = .ok (.aload_n 0, 1) := by decide +kernel
theorem dX9_isStale_129 : decode cX9_isStale 129 = .ok (.getfield 19, 3) := by decide +kernel
theorem dX9_isStale_132 : decode cX9_isStale 132 = .ok (.iconst 4, 1) := by decide +kernel
theorem dX9_isStale_133 : decode cX9_isStale 133 = .ok (.iload 5, 2) := by decide +kernel
theorem dX9_isStale_135 : decode cX9_isStale 135 = .ok (.iadd, 1) := by decide +kernel
theorem dX9_isStale_136 : decode cX9_isStale 136 = .ok (.iaload, 1) := by decide +kernel
theorem dX9_isStale_137 : decode cX9_isStale 137 = .ok (.invokevirtual 75, 3) := by decide +kernel
theorem dX9_isStale_140 : decode cX9_isStale 140 = .ok (.ifCond .ge 7, 3) := by decide +kernel
theorem dX9_isStale_143 : decode cX9_isStale 143 = .ok (.iconst 1, 1) := by decide +kernel
theorem dX9_isStale_144 : decode cX9_isStale 144 = .ok (.goto 4, 3) := by decide +kernel
theorem dX9_isStale_147 : decode cX9_isStale 147 = .ok (.iconst 0, 1) := by decide +kernel
theorem dX9_isStale_148 : decode cX9_isStale 148 = .ok (.istore 4, 2) := by decide +kernel
theorem dX9_isStale_150 : decode cX9_isStale 150 = .ok (.iinc 5 1, 3) := by decide +kernel
theorem dX9_isStale_153 : decode cX9_isStale 153 = .ok (.goto (-47), 3) := by decide +kernel
theorem dX9_isStale_156 : decode cX9_isStale 156 = .ok (.iconst 0, 1) := by decide +kernel
theorem dX9_isStale_157 : decode cX9_isStale 157 = .ok (.istore 5, 2) := by decide +kernel
theorem dX9_isStale_159 : decode cX9_isStale 159 = .ok (.iload 5, 2) := by decide +kernel
theorem dX9_isStale_161 : decode cX9_isStale 161 = .ok (.bipush 12, 2) := by decide +kernel
theorem dX9_isStale_163 : decode cX9_isStale 163 = .ok (.if_icmp .ge 25, 3) := by decide +kernel
theorem dX9_isStale_166 : decode cX9_isStale 166 = .ok (.aload_n 0, 1) := by decide +kernel
theorem dX9_isStale_167 : decode cX9_isStale 167 = .ok (.getfield 16, 3) := by decide +kernel
theorem dX9_isStale_170 : decode cX9_isStale 170 = .ok (.iload_n 3, 1) := by decide +kernel
theorem dX9_isStale_171 : decode cX9_isStale 171 = .ok (.iload 5, 2) := by decide +kernel
theorem dX9_isStale_173 : decode cX9_isStale 173 = .ok (.iadd, 1) := by decide +kernel
theorem dX9_isStale_174 : decode cX9_isStale 174 = .ok (.aload_n 0, 1) := by decide +kernel
theorem dX9_isStale_175 : decode cX9_isStale 175 = .ok (.getfield 19, 3) := by decide +kernel
theorem dX9_isStale_178 : decode cX9_isStale 178 = .ok (.iload 5, 2) := by decide +kernel
theorem dX9_isStale_180 : decode cX9_isStale 180 = .ok (.iaload, 1) := by decide +kernel
theorem dX9_isStale_181 : decode cX9_isStale 181 = .ok (.iastore, 1) := by decide +kernel
theorem dX9_isStale_182 : decode cX9_isStale 182 = .ok (.iinc 5 1, 3) := by decide +kernel
theorem dX9_isStale_185 : decode cX9_isStale 185 = .ok (.goto (-26), 3) := by decide +kernel
theorem dX9_isStale_188 : decode cX9_isStale 188 = .ok (.iload 4, 2) := by decide +kernel
theorem dX9_isStale_190 : decode cX9_isStale 190 = .ok (.ireturn, 1) := by decide +kernel
theorem dX9_anew_0 : decode cX9_anew 0 = .ok (.iload_n 1, 1) := by decide +kernel
theorem dX9_anew_1 : decode cX9_anew 1 = .ok (.invokestatic 70, 3) := by decide +kernel
theorem dX9_anew_4 : decode cX9_anew 4 = .ok (.ifCond .ne 5, 3) := by decide +kernel
theorem dX9_anew_7 : decode cX9_anew 7 = .ok (.iconst (-1), 1) := by decide +kernel
theorem dX9_anew_8 : decode cX9_anew 8 = .ok (.ireturn, 1) := by decide +kernel
theorem dX9_anew_9 : decode cX9_anew 9 = .ok (.iconst 0, 1) := by decide +kernel
theorem dX9_anew_10 : decode cX9_anew 10 = .ok (.istore_n 2, 1) := by decide +kernel
theorem dX9_anew_11 : decode cX9_anew 11 = .ok (.iconst 0, 1) := by decide +kernel
theorem dX9_anew_12 : decode cX9_anew 12 = .ok (.istore_n 3, 1) := by decide +kernel
theorem dX9_anew_13 : decode cX9_anew 13 = .ok (.iload_n 3, 1) := by decide +kernel
theorem dX9_anew_14 : decode cX9_anew 14 = .ok (.iconst 4, 1) := by decide +kernel
theorem dX9_anew_15 : decode cX9_anew 15 = .ok (.if_icmp .ge 32, 3) := by decide +kernel
theorem dX9_anew_18 : decode cX9_anew 18 = .ok (.iload_n 2, 1) := by decide +kernel
theorem dX9_anew_19 : decode cX9_anew 19 = .ok (.aload_n 0, 1) := by decide +kernel
theorem dX9_anew_20 : decode cX9_anew 20 = .ok (.iload_n 1, 1) := by decide +kernel
theorem dX9_anew_21 : decode cX9_anew 21 = .ok (.iload_n 3, 1) := by decide +kernel
theorem dX9_anew_22 : decode cX9_anew 22 = .ok (.invokevirtual 94, 3) := by decide +kernel
theorem dX9_anew_25 : decode cX9_anew 25 = .ok (.ifCond .eq 7, 3) := by decide +kernel
theorem dX9_anew_28 : decode cX9_anew 28 = .ok (.iconst 1, 1) := by decide +kernel
theorem dX9_anew_29 : decode cX9_anew 29 = .ok (.goto 4, 3) := by decide +kernel
theorem dX9_anew_32 : decode cX9_anew 32 = .ok (.iconst 0, 1) := by decide +kernel
theorem dX9_anew_33 : decode cX9_anew 33 = .ok (.iadd, 1) := by decide +kernel
theorem dX9_anew_34 : decode cX9_anew 34 = .ok (.istore_n 2, 1) := by decide +kernel
theorem dX9_anew_35 : decode cX9_anew 35 = .ok (.aload_n 0, 1) := by decide +kernel
theorem dX9_anew_36 : decode cX9_anew 36 = .ok (.iload_n 1, 1) := by decide +kernel
theorem dX9_anew_37 : decode cX9_anew 37 = .ok (.iload_n 3, 1) := by decide +kernel
theorem dX9_anew_38 : decode cX9_anew 38 = .ok (.invokevirtual 91, 3) := by decide +kernel
theorem dX9_anew_41 : decode cX9_anew 41 = .ok (.iinc 3 1, 3) := by decide +kernel
theorem dX9_anew_44 : decode cX9_anew 44 = .ok (.goto (-31), 3) := by decide +kernel
theorem dX9_anew_47 : decode cX9_anew 47 = .ok (.iload_n 2, 1) := by decide +kernel
theorem dX9_anew_48 : decode cX9_anew 48 = .ok (.ireturn, 1) := by decide +kernel
theorem dX9_cell_0 : decode cX9_cell 0 = .ok (.aload_n 0, 1) := by decide +kernel
theorem dX9_cell_1 : decode cX9_cell 1 = .ok (.iload_n 1, 1) := by decide +kernel
theorem dX9_cell_2 : decode cX9_cell 2 = .ok (.iload_n 2, 1) := by decide +kernel
theorem dX9_cell_3 : decode cX9_cell 3 = .ok (.invokevirtual 83, 3) := by decide +kernel
theorem dX9_cell_6 : decode cX9_cell 6 = .ok (.ifCond .eq 20, 3) := by decide +kernel
theorem dX9_cell_9 : decode cX9_cell 9 = .ok (.iload_n 3, 1) := by decide +kernel
theorem dX9_cell_10 : decode cX9_cell 10 = .ok (.invokestatic 97, 3) := by decide +kernel
theorem dX9_cell_13 : decode cX9_cell 13 = .ok (.ifCond .eq 13, 3) := by decide +kernel
theorem dX9_cell_16 : decode cX9_cell 16 = .ok (.aload_n 0, 1) := by decide +kernel
theorem dX9_cell_17 : decode cX9_cell 17 = .ok (.iload_n 1, 1) := by decide +kernel
theorem dX9_cell_18 : decode cX9_cell 18 = .ok (.iload_n 2, 1) := by decide +kernel
theorem dX9_cell_19 : decode cX9_cell 19 = .ok (.iload_n 3, 1) := by decide +kernel
theorem dX9_cell_20 : decode cX9_cell 20 = .ok (.invokevirtual 87, 3) := by decide +kernel
theorem dX9_cell_23 : decode cX9_cell 23 = .ok (.goto 5, 3) := by decide +kernel
theorem dX9_cell_26 : decode cX9_cell 26 = .ok (.ldc 100, 2) := by decide +kernel
theorem dX9_cell_28 : decode cX9_cell 28 = .ok (.ireturn, 1) := by decide +kernel
theorem dX9_summary_0 : decode cX9_summary 0 = .ok (.iload_n 1, 1) := by decide +kernel
theorem dX9_summary_1 : decode cX9_summary 1 = .ok (.invokestatic 70, 3) := by decide +kernel
theorem dX9_summary_4 : decode cX9_summary 4 = .ok (.ifCond .eq 10, 3) := by decide +kernel
theorem dX9_summary_7 : decode cX9_summary 7 = .ok (.iload_n 2, 1) := by decide +kernel
theorem dX9_summary_8 : decode cX9_summary 8 = .ok (.invokestatic 97, 3) := by decide +kernel
theorem dX9_summary_11 : decode cX9_summary 11 = .ok (.ifCond .ne 6, 3) := by decide +kernel
theorem dX9_summary_14 : decode cX9_summary 14 = .ok (.ldc 100, 2) := by decide +kernel
theorem dX9_summary_16 : decode cX9_summary 16 = .ok (.ireturn, 1) := by decide +kernel
theorem dX9_summary_17 : decode cX9_summary 17 = .ok (.iload_n 3, 1) := by decide +kernel
theorem dX9_summary_18 : decode cX9_summary 18 = .ok (.iconst 0, 1) := by decide +kernel
theorem dX9_summary_19 : decode cX9_summary 19 = .ok (.iconst 4, 1) := by decide +kernel
theorem dX9_summary_20 : decode cX9_summary 20 = .ok (.invokestatic 66, 3) := by decide +kernel
theorem dX9_summary_23 : decode cX9_summary 23 = .ok (.ifCond .ne 6, 3) := by decide +kernel
theorem dX9_summary_26 : decode cX9_summary 26 = .ok (.ldc 101, 2) := by decide +kernel
theorem dX9_summary_28 : decode cX9_summary 28 = .ok (.ireturn, 1) := by decide +kernel
theorem dX9_summary_29 : decode cX9_summary 29 = .ok (.iload_n 3, 1) := by decide +kernel
theorem dX9_summary_30 : decode cX9_summary 30 = .ok (.iconst 4, 1) := by decide +kernel
theorem dX9_summary_31 : decode cX9_summary 31 = .ok (.if_icmp .ne 18, 3) := by decide +kernel
theorem dX9_summary_34 : decode cX9_summary 34 = .ok (.aload_n 0, 1) := by decide +kernel
theorem dX9_summary_35 : decode cX9_summary 35 = .ok (.iload_n 1, 1) := by decide +kernel
theorem dX9_summary_36 : decode cX9_summary 36 = .ok (.iload_n 2, 1) := by decide +kernel
theorem dX9_summary_37 : decode cX9_summary 37 = .ok (.invokevirtual 94, 3) := by decide +kernel
theorem dX9_summary_40 : decode cX9_summary 40 = .ok (.ifCond .eq 7, 3) := by decide +kernel
theorem dX9_summary_43 : decode cX9_summary 43 = .ok (.iconst 1, 1) := by decide +kernel
theorem dX9_summary_44 : decode cX9_summary 44 = .ok (.goto 4, 3) := by decide +kernel
theorem dX9_summary_47 : decode cX9_summary 47 = .ok (.iconst 0, 1) := by decide +kernel
theorem dX9_summary_48 : decode cX9_summary 48 = .ok (.ireturn, 1) := by decide +kernel
theorem dX9_summary_49 : decode cX9_summary 49 = .ok (.aload_n 0, 1) := by decide +kernel
theorem dX9_summary_50 : decode cX9_summary 50 = .ok (.getfield 16, 3) := by decide +kernel
theorem dX9_summary_53 : decode cX9_summary 53 = .ok (.bipush 12, 2) := by decide +kernel
theorem dX9_summary_55 : decode cX9_summary 55 = .ok (.iconst 4, 1) := by decide +kernel
theorem dX9_summary_56 : decode cX9_summary 56 = .ok (.iload_n 1, 1) := by decide +kernel
theorem dX9_summary_57 : decode cX9_summary 57 = .ok (.imul, 1) := by decide +kernel
theorem dX9_summary_58 : decode cX9_summary 58 = .ok (.iload_n 2, 1) := by decide +kernel
theorem dX9_summary_59 : decode cX9_summary 59 = .ok (.iadd, 1) := by decide +kernel
theorem dX9_summary_60 : decode cX9_summary 60 = .ok (.imul, 1) := by decide +kernel
theorem dX9_summary_61 : decode cX9_summary 61 = .ok (.iload_n 3, 1) := by decide +kernel
theorem dX9_summary_62 : decode cX9_summary 62 = .ok (.iadd, 1) := by decide +kernel
theorem dX9_summary_63 : decode cX9_summary 63 = .ok (.iaload, 1) := by decide +kernel
theorem dX9_summary_64 : decode cX9_summary 64 = .ok (.istore 4, 2) := by decide +kernel
theorem dX9_summary_66 : decode cX9_summary 66 = .ok (.iload_n 3, 1) := by decide +kernel
theorem dX9_summary_67 : decode cX9_summary 67 = .ok (.iconst 3, 1) := by decide +kernel
theorem dX9_summary_68 : decode cX9_summary 68 = .ok (.if_icmp .ne 13, 3) := by decide +kernel
theorem dX9_summary_71 : decode cX9_summary 71 = .ok (.iload 4, 2) := by decide +kernel
theorem dX9_summary_73 : decode cX9_summary 73 = .ok (.ifCond .ge 8, 3) := by decide +kernel
theorem dX9_summary_76 : decode cX9_summary 76 = .ok (.ldc 74, 2) := by decide +kernel
theorem dX9_summary_78 : decode cX9_summary 78 = .ok (.goto 5, 3) := by decide +kernel
theorem dX9_summary_81 : decode cX9_summary 81 = .ok (.iload 4, 2) := by decide +kernel
theorem dX9_summary_83 : decode cX9_summary 83 = .ok (.ireturn, 1) := by decide +kernel
theorem dX9_listed_0 : decode cX9_listed 0 = .ok (.iload_n 1, 1) := by decide +kernel
theorem dX9_listed_1 : decode cX9_listed 1 = .ok (.invokestatic 70, 3) := by decide +kernel
theorem dX9_listed_4 : decode cX9_listed 4 = .ok (.ifCond .eq 10, 3) := by decide +kernel
theorem dX9_listed_7 : decode cX9_listed 7 = .ok (.iload_n 2, 1) := by decide +kernel
theorem dX9_listed_8 : decode cX9_listed 8 = .ok (.invokestatic 97, 3) := by decide +kernel
theorem dX9_listed_11 : decode cX9_listed 11 = .ok (.ifCond .ne 6, 3) := by decide +kernel
theorem dX9_listed_14 : decode cX9_listed 14 = .ok (.ldc 100, 2) := by decide +kernel
theorem dX9_listed_16 : decode cX9_listed 16 = .ok (.ireturn, 1) := by decide +kernel
theorem dX9_listed_17 : decode cX9_listed 17 = .ok (.iload 4, 2) := by decide +kernel
theorem dX9_listed_19 : decode cX9_listed 19 = .ok (.iconst 0, 1) := by decide +kernel
theorem dX9_listed_20 : decode cX9_listed 20 = .ok (.iconst 1, 1) := by decide +kernel
theorem dX9_listed_21 : decode cX9_listed 21 = .ok (.invokestatic 66, 3) := by decide +kernel
theorem dX9_listed_24 : decode cX9_listed 24 = .ok (.ifCond .ne 6, 3) := by decide +kernel
theorem dX9_listed_27 : decode cX9_listed 27 = .ok (.ldc 101, 2) := by decide +kernel
theorem dX9_listed_29 : decode cX9_listed 29 = .ok (.ireturn, 1) := by decide +kernel
theorem dX9_listed_30 : decode cX9_listed 30 = .ok (.bipush 12, 2) := by decide +kernel
theorem dX9_listed_32 : decode cX9_listed 32 = .ok (.iconst 4, 1) := by decide +kernel
theorem dX9_listed_33 : decode cX9_listed 33 = .ok (.iload_n 1, 1) := by decide +kernel
theorem dX9_listed_34 : decode cX9_listed 34 = .ok (.imul, 1) := by decide +kernel
theorem dX9_listed_35 : decode cX9_listed 35 = .ok (.iload_n 2, 1) := by decide +kernel
theorem dX9_listed_36 : decode cX9_listed 36 = .ok (.iadd, 1) := by decide +kernel
theorem dX9_listed_37 : decode cX9_listed 37 = .ok (.imul, 1) := by decide +kernel
theorem dX9_listed_38 : decode cX9_listed 38 = .ok (.istore 5, 2) := by decide +kernel
theorem dX9_listed_40 : decode cX9_listed 40 = .ok (.iload_n 3, 1) := by decide +kernel
theorem dX9_listed_41 : decode cX9_listed 41 = .ok (.iconst 0, 1) := by decide +kernel
theorem dX9_listed_42 : decode cX9_listed 42 = .ok (.aload_n 0, 1) := by decide +kernel
theorem dX9_listed_43 : decode cX9_listed 43 = .ok (.getfield 16, 3) := by decide +kernel
theorem dX9_listed_46 : decode cX9_listed 46 = .ok (.iload 5, 2) := by decide +kernel
theorem dX9_listed_48 : decode cX9_listed 48 = .ok (.iconst 3, 1) := by decide +kernel
theorem dX9_listed_49 : decode cX9_listed 49 = .ok (.iadd, 1) := by decide +kernel
theorem dX9_listed_50 : decode cX9_listed 50 = .ok (.iaload, 1) := by decide +kernel
theorem dX9_listed_51 : decode cX9_listed 51 = .ok (.iconst 1, 1) := by decide +kernel
theorem dX9_listed_52 : decode cX9_listed 52 = .ok (.isub, 1) := by decide +kernel
theorem dX9_listed_53 : decode cX9_listed 53 = .ok (.invokestatic 66, 3) := by decide +kernel
theorem dX9_listed_56 : decode cX9_listed 56 = .ok (.ifCond .eq 22, 3) := by decide +kernel
theorem dX9_listed_59 : decode cX9_listed 59 = .ok (.aload_n 0, 1) := by decide +kernel
theorem dX9_listed_60 : decode cX9_listed 60 = .ok (.getfield 16, 3) := by decide +kernel
theorem dX9_listed_63 : decode cX9_listed 63 = .ok (.iload 5, 2) := by decide +kernel
theorem dX9_listed_65 : decode cX9_listed 65 = .ok (.iconst 4, 1) := by decide +kernel
theorem dX9_listed_66 : decode cX9_listed 66 = .ok (.iadd, 1) := by decide +kernel
theorem dX9_listed_67 : decode cX9_listed 67 = .ok (.iconst 4, 1) := by decide +kernel
theorem dX9_listed_68 : decode cX9_listed 68 = .ok (.iload 4, 2) := by decide +kernel
theorem dX9_listed_70 : decode cX9_listed 70 = .ok (.imul, 1) := by decide +kernel
theorem dX9_listed_71 : decode cX9_listed 71 = .ok (.iadd, 1) := by decide +kernel
theorem dX9_listed_72 : decode cX9_listed 72 = .ok (.iload_n 3, 1) := by decide +kernel
theorem dX9_listed_73 : decode cX9_listed 73 = .ok (.iadd, 1) := by decide +kernel
theorem dX9_listed_74 : decode cX9_listed 74 = .ok (.iaload, 1) := by decide +kernel
theorem dX9_listed_75 : decode cX9_listed 75 = .ok (.goto 5, 3) := by decide +kernel
theorem dX9_listed_78 : decode cX9_listed 78 = .ok (.ldc 74, 2) := by decide +kernel
theorem dX9_listed_80 : decode cX9_listed 80 = .ok (.ireturn, 1) := by decide +kernel
theorem dX9_say_0 : decode cX9_say 0 = .ok (.iload_n 1, 1) := by decide +kernel
theorem dX9_say_1 : decode cX9_say 1 = .ok (.bipush 33, 2) := by decide +kernel
theorem dX9_say_3 : decode cX9_say 3 = .ok (.bipush 126, 2) := by decide +kernel
theorem dX9_say_5 : decode cX9_say 5 = .ok (.invokestatic 66, 3) := by decide +kernel
theorem dX9_say_8 : decode cX9_say 8 = .ok (.ifCond .ne 6, 3) := by decide +kernel
theorem dX9_say_11 : decode cX9_say 11 = .ok (.bipush (-2), 2) := by decide +kernel
theorem dX9_say_13 : decode cX9_say 13 = .ok (.ireturn, 1) := by decide +kernel
theorem dX9_say_14 : decode cX9_say 14 = .ok (.aload_n 0, 1) := by decide +kernel
theorem dX9_say_15 : decode cX9_say 15 = .ok (.getfield 102, 3) := by decide +kernel
theorem dX9_say_18 : decode cX9_say 18 = .ok (.bipush 60, 2) := by decide +kernel
theorem dX9_say_20 : decode cX9_say 20 = .ok (.if_icmp .ne 6, 3) := by decide +kernel
theorem dX9_say_23 : decode cX9_say 23 = .ok (.bipush (-4), 2) := by decide +kernel
theorem dX9_say_25 : decode cX9_say 25 = .ok (.ireturn, 1) := by decide +kernel
theorem dX9_say_26 : decode cX9_say 26 = .ok (.aload_n 0, 1) := by decide +kernel
theorem dX9_say_27 : decode cX9_say 27 = .ok (.getfield 22, 3) := by decide +kernel
theorem dX9_say_30 : decode cX9_say 30 = .ok (.aload_n 0, 1) := by decide +kernel
theorem dX9_say_31 : decode cX9_say 31 = .ok (.getfield 102, 3) := by decide +kernel
theorem dX9_say_34 : decode cX9_say 34 = .ok (.iload_n 1, 1) := by decide +kernel
theorem dX9_say_35 : decode cX9_say 35 = .ok (.iastore, 1) := by decide +kernel
theorem dX9_say_36 : decode cX9_say 36 = .ok (.aload_n 0, 1) := by decide +kernel
theorem dX9_say_37 : decode cX9_say 37 = .ok (.dup, 1) := by decide +kernel
theorem dX9_say_38 : decode cX9_say 38 = .ok (.getfield 102, 3) := by decide +kernel
theorem dX9_say_41 : decode cX9_say 41 = .ok (.iconst 1, 1) := by decide +kernel
theorem dX9_say_42 : decode cX9_say 42 = .ok (.iadd, 1) := by decide +kernel
theorem dX9_say_43 : decode cX9_say 43 = .ok (.putfield 102, 3) := by decide +kernel
theorem dX9_say_46 : decode cX9_say 46 = .ok (.aload_n 0, 1) := by decide +kernel
theorem dX9_say_47 : decode cX9_say 47 = .ok (.getfield 102, 3) := by decide +kernel
theorem dX9_say_50 : decode cX9_say 50 = .ok (.ireturn, 1) := by decide +kernel
theorem dX9_wipe_0 : decode cX9_wipe 0 = .ok (.aload_n 0, 1) := by decide +kernel
theorem dX9_wipe_1 : decode cX9_wipe 1 = .ok (.getfield 102, 3) := by decide +kernel
theorem dX9_wipe_4 : decode cX9_wipe 4 = .ok (.istore_n 1, 1) := by decide +kernel
theorem dX9_wipe_5 : decode cX9_wipe 5 = .ok (.aload_n 0, 1) := by decide +kernel
theorem dX9_wipe_6 : decode cX9_wipe 6 = .ok (.iconst 0, 1) := by decide +kernel
theorem dX9_wipe_7 : decode cX9_wipe 7 = .ok (.putfield 102, 3) := by decide +kernel
theorem dX9_wipe_10 : decode cX9_wipe 10 = .ok (.iload_n 1, 1) := by decide +kernel
theorem dX9_wipe_11 : decode cX9_wipe 11 = .ok (.ireturn, 1) := by decide +kernel
theorem dX9_termOf_0 : decode cX9_termOf 0 = .ok (.iload_n 0, 1) := by decide +kernel
theorem dX9_termOf_1 : decode cX9_termOf 1 = .ok (.bipush 97, 2) := by decide +kernel
theorem dX9_termOf_3 : decode cX9_termOf 3 = .ok (.bipush 100, 2) := by decide +kernel
theorem dX9_termOf_5 : decode cX9_termOf 5 = .ok (.invokestatic 66, 3) := by decide +kernel
theorem dX9_termOf_8 : decode cX9_termOf 8 = .ok (.ifCond .eq 5, 3) := by decide +kernel
theorem dX9_termOf_11 : decode cX9_termOf 11 = .ok (.iconst 1, 1) := by decide +kernel
theorem dX9_termOf_12 : decode cX9_termOf 12 = .ok (.ireturn, 1) := by decide +kernel
theorem dX9_termOf_13 : decode cX9_termOf 13 = .ok (.iload_n 0, 1) := by decide +kernel
theorem dX9_termOf_14 : decode cX9_termOf 14 = .ok (.bipush 48, 2) := by decide +kernel
theorem dX9_termOf_16 : decode cX9_termOf 16 = .ok (.bipush 57, 2) := by decide +kernel
theorem dX9_termOf_18 : decode cX9_termOf 18 = .ok (.invokestatic 66, 3) := by decide +kernel
theorem dX9_termOf_21 : decode cX9_termOf 21 = .ok (.ifCond .eq 5, 3) := by decide +kernel
theorem dX9_termOf_24 : decode cX9_termOf 24 = .ok (.iconst 2, 1) := by decide +kernel
theorem dX9_termOf_25 : decode cX9_termOf 25 = .ok (.ireturn, 1) := by decide +kernel
theorem dX9_termOf_26 : decode cX9_termOf 26 = .ok (.iload_n 0, 1) := by decide +kernel
theorem dX9_termOf_27 : decode cX9_termOf 27 = .ok (.lookupswitch 83 #[(35, 65), (37, 77), (42, 74), (43, 69), (45, 71), (121, 80), (126, 67)], 65) := by decide +kernel
theorem dX9_termOf_92 : decode cX9_termOf 92 = .ok (.iconst 3, 1) := by decide +kernel
theorem dX9_termOf_93 : decode cX9_termOf 93 = .ok (.ireturn, 1) := by decide +kernel
theorem dX9_termOf_94 : decode cX9_termOf 94 = .ok (.iconst 4, 1) := by decide +kernel
theorem dX9_termOf_95 : decode cX9_termOf 95 = .ok (.ireturn, 1) := by decide +kernel
theorem dX9_termOf_96 : decode cX9_termOf 96 = .ok (.iconst 5, 1) := by decide +kernel
theorem dX9_termOf_97 : decode cX9_termOf 97 = .ok (.ireturn, 1) := by decide +kernel
theorem dX9_termOf_98 : decode cX9_termOf 98 = .ok (.bipush 6, 2) := by decide +kernel
theorem dX9_termOf_100 : decode cX9_termOf 100 = .ok (.ireturn, 1) := by decide +kernel
theorem dX9_termOf_101 : decode cX9_termOf 101 = .ok (.bipush 7, 2) := by decide +kernel
theorem dX9_termOf_103 : decode cX9_termOf 103 = .ok (.ireturn, 1) := by decide +kernel
theorem dX9_termOf_104 : decode cX9_termOf 104 = .ok (.bipush 8, 2) := by decide +kernel
theorem dX9_termOf_106 : decode cX9_termOf 106 = .ok (.ireturn, 1) := by decide +kernel
theorem dX9_termOf_107 : decode cX9_termOf 107 = .ok (.bipush 9, 2) := by decide +kernel
theorem dX9_termOf_109 : decode cX9_termOf 109 = .ok (.ireturn, 1) := by decide +kernel
theorem dX9_termOf_110 : decode cX9_termOf 110 = .ok (.ldc 74, 2) := by decide +kernel
theorem dX9_termOf_112 : decode cX9_termOf 112 = .ok (.ireturn, 1) := by decide +kernel
theorem dX9_truthOf_0 : decode cX9_truthOf 0 = .ok (.iload_n 0, 1) := by decide +kernel
theorem dX9_truthOf_1 : decode cX9_truthOf 1 = .ok (.lookupswitch 77 #[(33, 71), (38, 65), (60, 59), (61, 62), (109, 74), (124, 68)], 59) := by decide +kernel
theorem dX9_truthOf_60 : decode cX9_truthOf 60 = .ok (.bipush 10, 2) := by decide +kernel
theorem dX9_truthOf_62 : decode cX9_truthOf 62 = .ok (.ireturn, 1) := by decide +kernel
theorem dX9_truthOf_63 : decode cX9_truthOf 63 = .ok (.bipush 11, 2) := by decide +kernel
theorem dX9_truthOf_65 : decode cX9_truthOf 65 = .ok (.ireturn, 1) := by decide +kernel
theorem dX9_truthOf_66 : decode cX9_truthOf 66 = .ok (.bipush 12, 2) := by decide +kernel
theorem dX9_truthOf_68 : decode cX9_truthOf 68 = .ok (.ireturn, 1) := by decide +kernel
theorem dX9_truthOf_69 : decode cX9_truthOf 69 = .ok (.bipush 13, 2) := by decide +kernel
theorem dX9_truthOf_71 : decode cX9_truthOf 71 = .ok (.ireturn, 1) := by decide +kernel
theorem dX9_truthOf_72 : decode cX9_truthOf 72 = .ok (.bipush 14, 2) := by decide +kernel
theorem dX9_truthOf_74 : decode cX9_truthOf 74 = .ok (.ireturn, 1) := by decide +kernel
theorem dX9_truthOf_75 : decode cX9_truthOf 75 = .ok (.bipush 15, 2) := by decide +kernel
theorem dX9_truthOf_77 : decode cX9_truthOf 77 = .ok (.ireturn, 1) := by decide +kernel
theorem dX9_truthOf_78 : decode cX9_truthOf 78 = .ok (.ldc 74, 2) := by decide +kernel
theorem dX9_truthOf_80 : decode cX9_truthOf 80 = .ok (.ireturn, 1) := by decide +kernel
theorem dX9_inner_0 : decode cX9_inner 0 = .ok (.iload_n 0, 1) := by decide +kernel
theorem dX9_inner_1 : decode cX9_inner 1 = .ok (.iconst 4, 1) := by decide +kernel
theorem dX9_inner_2 : decode cX9_inner 2 = .ok (.if_icmp .eq 21, 3) := by decide +kernel
theorem dX9_inner_5 : decode cX9_inner 5 = .ok (.iload_n 0, 1) := by decide +kernel
theorem dX9_inner_6 : decode cX9_inner 6 = .ok (.bipush 8, 2) := by decide +kernel
theorem dX9_inner_8 : decode cX9_inner 8 = .ok (.if_icmp .eq 15, 3) := by decide +kernel
theorem dX9_inner_11 : decode cX9_inner 11 = .ok (.iload_n 0, 1) := by decide +kernel
theorem dX9_inner_12 : decode cX9_inner 12 = .ok (.bipush 9, 2) := by decide +kernel
theorem dX9_inner_14 : decode cX9_inner 14 = .ok (.if_icmp .eq 9, 3) := by decide +kernel
theorem dX9_inner_17 : decode cX9_inner 17 = .ok (.iload_n 0, 1) := by decide +kernel
theorem dX9_inner_18 : decode cX9_inner 18 = .ok (.bipush 14, 2) := by decide +kernel
theorem dX9_inner_20 : decode cX9_inner 20 = .ok (.if_icmp .ne 7, 3) := by decide +kernel
theorem dX9_inner_23 : decode cX9_inner 23 = .ok (.iconst 1, 1) := by decide +kernel
theorem dX9_inner_24 : decode cX9_inner 24 = .ok (.goto 29, 3) := by decide +kernel
theorem dX9_inner_27 : decode cX9_inner 27 = .ok (.iload_n 0, 1) := by decide +kernel
theorem dX9_inner_28 : decode cX9_inner 28 = .ok (.iconst 1, 1) := by decide +kernel
theorem dX9_inner_29 : decode cX9_inner 29 = .ok (.if_icmp .eq 19, 3) := by decide +kernel
theorem dX9_inner_32 : decode cX9_inner 32 = .ok (.iload_n 0, 1) := by decide +kernel
theorem dX9_inner_33 : decode cX9_inner 33 = .ok (.iconst 2, 1) := by decide +kernel
theorem dX9_inner_34 : decode cX9_inner 34 = .ok (.if_icmp .eq 14, 3) := by decide +kernel
theorem dX9_inner_37 : decode cX9_inner 37 = .ok (.iload_n 0, 1) := by decide +kernel
theorem dX9_inner_38 : decode cX9_inner 38 = .ok (.iconst 3, 1) := by decide +kernel
theorem dX9_inner_39 : decode cX9_inner 39 = .ok (.if_icmp .eq 9, 3) := by decide +kernel
theorem dX9_inner_42 : decode cX9_inner 42 = .ok (.iload_n 0, 1) := by decide +kernel
theorem dX9_inner_43 : decode cX9_inner 43 = .ok (.bipush 15, 2) := by decide +kernel
theorem dX9_inner_45 : decode cX9_inner 45 = .ok (.if_icmp .ne 7, 3) := by decide +kernel
theorem dX9_inner_48 : decode cX9_inner 48 = .ok (.iconst 0, 1) := by decide +kernel
theorem dX9_inner_49 : decode cX9_inner 49 = .ok (.goto 4, 3) := by decide +kernel
theorem dX9_inner_52 : decode cX9_inner 52 = .ok (.iconst 2, 1) := by decide +kernel
theorem dX9_inner_53 : decode cX9_inner 53 = .ok (.ireturn, 1) := by decide +kernel
theorem dX9_read_0 : decode cX9_read 0 = .ok (.iconst 1, 1) := by decide +kernel
theorem dX9_read_1 : decode cX9_read 1 = .ok (.istore_n 1, 1) := by decide +kernel
theorem dX9_read_2 : decode cX9_read 2 = .ok (.aload_n 0, 1) := by decide +kernel
theorem dX9_read_3 : decode cX9_read 3 = .ok (.getfield 37, 3) := by decide +kernel
theorem dX9_read_6 : decode cX9_read 6 = .ok (.iconst 0, 1) := by decide +kernel
theorem dX9_read_7 : decode cX9_read 7 = .ok (.iconst 1, 1) := by decide +kernel
theorem dX9_read_8 : decode cX9_read 8 = .ok (.iastore, 1) := by decide +kernel
theorem dX9_read_9 : decode cX9_read 9 = .ok (.iconst 0, 1) := by decide +kernel
theorem dX9_read_10 : decode cX9_read 10 = .ok (.istore_n 2, 1) := by decide +kernel
theorem dX9_read_11 : decode cX9_read 11 = .ok (.iload_n 2, 1) := by decide +kernel
theorem dX9_read_12 : decode cX9_read 12 = .ok (.aload_n 0, 1) := by decide +kernel
theorem dX9_read_13 : decode cX9_read 13 = .ok (.getfield 102, 3) := by decide +kernel
theorem dX9_read_16 : decode cX9_read 16 = .ok (.if_icmp .ge 269, 3) := by decide +kernel
theorem dX9_read_19 : decode cX9_read 19 = .ok (.aload_n 0, 1) := by decide +kernel
theorem dX9_read_20 : decode cX9_read 20 = .ok (.getfield 22, 3) := by decide +kernel
theorem dX9_read_23 : decode cX9_read 23 = .ok (.iload_n 2, 1) := by decide +kernel
theorem dX9_read_24 : decode cX9_read 24 = .ok (.iaload, 1) := by decide +kernel
theorem dX9_read_25 : decode cX9_read 25 = .ok (.istore_n 3, 1) := by decide +kernel
theorem dX9_read_26 : decode cX9_read 26 = .ok (.aload_n 0, 1) := by decide +kernel
theorem dX9_read_27 : decode cX9_read 27 = .ok (.getfield 25, 3) := by decide +kernel
theorem dX9_read_30 : decode cX9_read 30 = .ok (.iload_n 2, 1) := by decide +kernel
theorem dX9_read_31 : decode cX9_read 31 = .ok (.ldc 74, 2) := by decide +kernel
theorem dX9_read_33 : decode cX9_read 33 = .ok (.iastore, 1) := by decide +kernel
theorem dX9_read_34 : decode cX9_read 34 = .ok (.iload_n 1, 1) := by decide +kernel
theorem dX9_read_35 : decode cX9_read 35 = .ok (.ifCond .ne 5, 3) := by decide +kernel
theorem dX9_read_38 : decode cX9_read 38 = .ok (.iload_n 2, 1) := by decide +kernel
theorem dX9_read_39 : decode cX9_read 39 = .ok (.ireturn, 1) := by decide +kernel
theorem dX9_read_40 : decode cX9_read 40 = .ok (.iinc 1 (-1), 3) := by decide +kernel
theorem dX9_read_43 : decode cX9_read 43 = .ok (.aload_n 0, 1) := by decide +kernel
theorem dX9_read_44 : decode cX9_read 44 = .ok (.getfield 37, 3) := by decide +kernel
theorem dX9_read_47 : decode cX9_read 47 = .ok (.iload_n 1, 1) := by decide +kernel
theorem dX9_read_48 : decode cX9_read 48 = .ok (.iaload, 1) := by decide +kernel
theorem dX9_read_49 : decode cX9_read 49 = .ok (.istore 4, 2) := by decide +kernel
theorem dX9_read_51 : decode cX9_read 51 = .ok (.iload 4, 2) := by decide +kernel
theorem dX9_read_53 : decode cX9_read 53 = .ok (.iconst 2, 1) := by decide +kernel
theorem dX9_read_54 : decode cX9_read 54 = .ok (.if_icmp .le 57, 3) := by decide +kernel
theorem dX9_read_57 : decode cX9_read 57 = .ok (.iload 4, 2) := by decide +kernel
theorem dX9_read_59 : decode cX9_read 59 = .ok (.iconst 3, 1) := by decide +kernel
theorem dX9_read_60 : decode cX9_read 60 = .ok (.if_icmp .ne 14, 3) := by decide +kernel
theorem dX9_read_63 : decode cX9_read 63 = .ok (.iload_n 3, 1) := by decide +kernel
theorem dX9_read_64 : decode cX9_read 64 = .ok (.bipush 97, 2) := by decide +kernel
theorem dX9_read_66 : decode cX9_read 66 = .ok (.bipush 100, 2) := by decide +kernel
theorem dX9_read_68 : decode cX9_read 68 = .ok (.invokestatic 66, 3) := by decide +kernel
theorem dX9_read_71 : decode cX9_read 71 = .ok (.goto 28, 3) := by decide +kernel
theorem dX9_read_74 : decode cX9_read 74 = .ok (.iload 4, 2) := by decide +kernel
theorem dX9_read_76 : decode cX9_read 76 = .ok (.iconst 4, 1) := by decide +kernel
theorem dX9_read_77 : decode cX9_read 77 = .ok (.if_icmp .ne 14, 3) := by decide +kernel
theorem dX9_read_80 : decode cX9_read 80 = .ok (.iload_n 3, 1) := by decide +kernel
theorem dX9_read_81 : decode cX9_read 81 = .ok (.bipush 48, 2) := by decide +kernel
theorem dX9_read_83 : decode cX9_read 83 = .ok (.bipush 57, 2) := by decide +kernel
theorem dX9_read_85 : decode cX9_read 85 = .ok (.invokestatic 66, 3) := by decide +kernel
theorem dX9_read_88 : decode cX9_read 88 = .ok (.goto 11, 3) := by decide +kernel
theorem dX9_read_91 : decode cX9_read 91 = .ok (.iload_n 3, 1) := by decide +kernel
theorem dX9_read_92 : decode cX9_read 92 = .ok (.bipush 49, 2) := by decide +kernel
theorem dX9_read_94 : decode cX9_read 94 = .ok (.bipush 57, 2) := by decide +kernel
theorem dX9_read_96 : decode cX9_read 96 = .ok (.invokestatic 66, 3) := by decide +kernel
theorem dX9_read_99 : decode cX9_read 99 = .ok (.istore 5, 2) := by decide +kernel
theorem dX9_read_101 : decode cX9_read 101 = .ok (.iload 5, 2) := by decide +kernel
theorem dX9_read_103 : decode cX9_read 103 = .ok (.ifCond .ne 5, 3) := by decide +kernel
theorem dX9_read_106 : decode cX9_read 106 = .ok (.iload_n 2, 1) := by decide +kernel
theorem dX9_read_107 : decode cX9_read 107 = .ok (.ireturn, 1) := by decide +kernel
theorem dX9_read_108 : decode cX9_read 108 = .ok (.goto 171, 3) := by decide +kernel
theorem dX9_read_111 : decode cX9_read 111 = .ok (.iload 4, 2) := by decide +kernel
theorem dX9_read_113 : decode cX9_read 113 = .ok (.iconst 1, 1) := by decide +kernel
theorem dX9_read_114 : decode cX9_read 114 = .ok (.if_icmp .ne 10, 3) := by decide +kernel
theorem dX9_read_117 : decode cX9_read 117 = .ok (.iload_n 3, 1) := by decide +kernel
theorem dX9_read_118 : decode cX9_read 118 = .ok (.invokestatic 106, 3) := by decide +kernel
theorem dX9_read_121 : decode cX9_read 121 = .ok (.goto 7, 3) := by decide +kernel
theorem dX9_read_124 : decode cX9_read 124 = .ok (.iload_n 3, 1) := by decide +kernel
theorem dX9_read_125 : decode cX9_read 125 = .ok (.invokestatic 110, 3) := by decide +kernel
theorem dX9_read_128 : decode cX9_read 128 = .ok (.istore 5, 2) := by decide +kernel
theorem dX9_read_130 : decode cX9_read 130 = .ok (.iload 5, 2) := by decide +kernel
theorem dX9_read_132 : decode cX9_read 132 = .ok (.ifCond .ge 5, 3) := by decide +kernel
theorem dX9_read_135 : decode cX9_read 135 = .ok (.iload_n 2, 1) := by decide +kernel
theorem dX9_read_136 : decode cX9_read 136 = .ok (.ireturn, 1) := by decide +kernel
theorem dX9_read_137 : decode cX9_read 137 = .ok (.aload_n 0, 1) := by decide +kernel
theorem dX9_read_138 : decode cX9_read 138 = .ok (.getfield 25, 3) := by decide +kernel
theorem dX9_read_141 : decode cX9_read 141 = .ok (.iload_n 2, 1) := by decide +kernel
theorem dX9_read_142 : decode cX9_read 142 = .ok (.iload 5, 2) := by decide +kernel
theorem dX9_read_144 : decode cX9_read 144 = .ok (.iastore, 1) := by decide +kernel
theorem dX9_read_145 : decode cX9_read 145 = .ok (.iload 5, 2) := by decide +kernel
theorem dX9_read_147 : decode cX9_read 147 = .ok (.iconst 3, 1) := by decide +kernel
theorem dX9_read_148 : decode cX9_read 148 = .ok (.if_icmp .eq 17, 3) := by decide +kernel
theorem dX9_read_151 : decode cX9_read 151 = .ok (.iload 5, 2) := by decide +kernel
theorem dX9_read_153 : decode cX9_read 153 = .ok (.bipush 8, 2) := by decide +kernel
theorem dX9_read_155 : decode cX9_read 155 = .ok (.if_icmp .eq 10, 3) := by decide +kernel
theorem dX9_read_158 : decode cX9_read 158 = .ok (.iload 5, 2) := by decide +kernel
theorem dX9_read_160 : decode cX9_read 160 = .ok (.bipush 15, 2) := by decide +kernel
theorem dX9_read_162 : decode cX9_read 162 = .ok (.if_icmp .ne 63, 3) := by decide +kernel
theorem dX9_read_165 : decode cX9_read 165 = .ok (.aload_n 0, 1) := by decide +kernel
theorem dX9_read_166 : decode cX9_read 166 = .ok (.getfield 37, 3) := by decide +kernel
theorem dX9_read_169 : decode cX9_read 169 = .ok (.iload_n 1, 1) := by decide +kernel
theorem dX9_read_170 : decode cX9_read 170 = .ok (.iload 5, 2) := by decide +kernel
theorem dX9_read_172 : decode cX9_read 172 = .ok (.iconst 3, 1) := by decide +kernel
theorem dX9_read_173 : decode cX9_read 173 = .ok (.if_icmp .ne 7, 3) := by decide +kernel
theorem dX9_read_176 : decode cX9_read 176 = .ok (.iconst 4, 1) := by decide +kernel
theorem dX9_read_177 : decode cX9_read 177 = .ok (.goto 15, 3) := by decide +kernel
theorem dX9_read_180 : decode cX9_read 180 = .ok (.iload 5, 2) := by decide +kernel
theorem dX9_read_182 : decode cX9_read 182 = .ok (.bipush 8, 2) := by decide +kernel
theorem dX9_read_184 : decode cX9_read 184 = .ok (.if_icmp .ne 7, 3) := by decide +kernel
theorem dX9_read_187 : decode cX9_read 187 = .ok (.iconst 5, 1) := by decide +kernel
theorem dX9_read_188 : decode cX9_read 188 = .ok (.goto 4, 3) := by decide +kernel
theorem dX9_read_191 : decode cX9_read 191 = .ok (.iconst 3, 1) := by decide +kernel
theorem dX9_read_192 : decode cX9_read 192 = .ok (.iastore, 1) := by decide +kernel
theorem dX9_read_193 : decode cX9_read 193 = .ok (.aload_n 0, 1) := by decide +kernel
theorem dX9_read_194 : decode cX9_read 194 = .ok (.getfield 37, 3) := by decide +kernel
theorem dX9_read_197 : decode cX9_read 197 = .ok (.iload_n 1, 1) := by decide +kernel
theorem dX9_read_198 : decode cX9_read 198 = .ok (.iconst 1, 1) := by decide +kernel
theorem dX9_read_199 : decode cX9_read 199 = .ok (.iadd, 1) := by decide +kernel
theorem dX9_read_200 : decode cX9_read 200 = .ok (.iconst 4, 1) := by decide +kernel
theorem dX9_read_201 : decode cX9_read 201 = .ok (.iastore, 1) := by decide +kernel
theorem dX9_read_202 : decode cX9_read 202 = .ok (.aload_n 0, 1) := by decide +kernel
theorem dX9_read_203 : decode cX9_read 203 = .ok (.getfield 37, 3) := by decide +kernel
theorem dX9_read_206 : decode cX9_read 206 = .ok (.iload_n 1, 1) := by decide +kernel
theorem dX9_read_207 : decode cX9_read 207 = .ok (.iconst 2, 1) := by decide +kernel
theorem dX9_read_208 : decode cX9_read 208 = .ok (.iadd, 1) := by decide +kernel
theorem dX9_read_209 : decode cX9_read 209 = .ok (.iconst 4, 1) := by decide +kernel
theorem dX9_read_210 : decode cX9_read 210 = .ok (.iastore, 1) := by decide +kernel
theorem dX9_read_211 : decode cX9_read 211 = .ok (.iload_n 1, 1) := by decide +kernel
theorem dX9_read_212 : decode cX9_read 212 = .ok (.iload 5, 2) := by decide +kernel
theorem dX9_read_214 : decode cX9_read 214 = .ok (.iconst 3, 1) := by decide +kernel
theorem dX9_read_215 : decode cX9_read 215 = .ok (.if_icmp .ne 7, 3) := by decide +kernel
theorem dX9_read_218 : decode cX9_read 218 = .ok (.iconst 3, 1) := by decide +kernel
theorem dX9_read_219 : decode cX9_read 219 = .ok (.goto 4, 3) := by decide +kernel
theorem dX9_read_222 : decode cX9_read 222 = .ok (.iconst 1, 1) := by decide +kernel
theorem dX9_read_223 : decode cX9_read 223 = .ok (.iadd, 1) := by decide +kernel
theorem dX9_read_224 : decode cX9_read 224 = .ok (.istore_n 1, 1) := by decide +kernel
theorem dX9_read_225 : decode cX9_read 225 = .ok (.iconst 0, 1) := by decide +kernel
theorem dX9_read_226 : decode cX9_read 226 = .ok (.istore 6, 2) := by decide +kernel
theorem dX9_read_228 : decode cX9_read 228 = .ok (.iload 6, 2) := by decide +kernel
theorem dX9_read_230 : decode cX9_read 230 = .ok (.iload 5, 2) := by decide +kernel
theorem dX9_read_232 : decode cX9_read 232 = .ok (.invokestatic 113, 3) := by decide +kernel
theorem dX9_read_235 : decode cX9_read 235 = .ok (.if_icmp .ge 44, 3) := by decide +kernel
theorem dX9_read_238 : decode cX9_read 238 = .ok (.aload_n 0, 1) := by decide +kernel
theorem dX9_read_239 : decode cX9_read 239 = .ok (.getfield 37, 3) := by decide +kernel
theorem dX9_read_242 : decode cX9_read 242 = .ok (.iload_n 1, 1) := by decide +kernel
theorem dX9_read_243 : decode cX9_read 243 = .ok (.iload 5, 2) := by decide +kernel
theorem dX9_read_245 : decode cX9_read 245 = .ok (.bipush 12, 2) := by decide +kernel
theorem dX9_read_247 : decode cX9_read 247 = .ok (.if_icmp .eq 17, 3) := by decide +kernel
theorem dX9_read_250 : decode cX9_read 250 = .ok (.iload 5, 2) := by decide +kernel
theorem dX9_read_252 : decode cX9_read 252 = .ok (.bipush 13, 2) := by decide +kernel
theorem dX9_read_254 : decode cX9_read 254 = .ok (.if_icmp .eq 10, 3) := by decide +kernel
theorem dX9_read_257 : decode cX9_read 257 = .ok (.iload 5, 2) := by decide +kernel
theorem dX9_read_259 : decode cX9_read 259 = .ok (.bipush 14, 2) := by decide +kernel
theorem dX9_read_261 : decode cX9_read 261 = .ok (.if_icmp .ne 7, 3) := by decide +kernel
theorem dX9_read_264 : decode cX9_read 264 = .ok (.iconst 1, 1) := by decide +kernel
theorem dX9_read_265 : decode cX9_read 265 = .ok (.goto 4, 3) := by decide +kernel
theorem dX9_read_268 : decode cX9_read 268 = .ok (.iconst 2, 1) := by decide +kernel
theorem dX9_read_269 : decode cX9_read 269 = .ok (.iastore, 1) := by decide +kernel
theorem dX9_read_270 : decode cX9_read 270 = .ok (.iinc 1 1, 3) := by decide +kernel
theorem dX9_read_273 : decode cX9_read 273 = .ok (.iinc 6 1, 3) := by decide +kernel
theorem dX9_read_276 : decode cX9_read 276 = .ok (.goto (-48), 3) := by decide +kernel
theorem dX9_read_279 : decode cX9_read 279 = .ok (.iinc 2 1, 3) := by decide +kernel
theorem dX9_read_282 : decode cX9_read 282 = .ok (.goto (-271), 3) := by decide +kernel
theorem dX9_read_285 : decode cX9_read 285 = .ok (.iload_n 1, 1) := by decide +kernel
theorem dX9_read_286 : decode cX9_read 286 = .ok (.ifCond .le 8, 3) := by decide +kernel
theorem dX9_read_289 : decode cX9_read 289 = .ok (.aload_n 0, 1) := by decide +kernel
theorem dX9_read_290 : decode cX9_read 290 = .ok (.getfield 102, 3) := by decide +kernel
theorem dX9_read_293 : decode cX9_read 293 = .ok (.ireturn, 1) := by decide +kernel
theorem dX9_read_294 : decode cX9_read 294 = .ok (.aload_n 0, 1) := by decide +kernel
theorem dX9_read_295 : decode cX9_read 295 = .ok (.getfield 102, 3) := by decide +kernel
theorem dX9_read_298 : decode cX9_read 298 = .ok (.iconst 1, 1) := by decide +kernel
theorem dX9_read_299 : decode cX9_read 299 = .ok (.isub, 1) := by decide +kernel
theorem dX9_read_300 : decode cX9_read 300 = .ok (.istore_n 2, 1) := by decide +kernel
theorem dX9_read_301 : decode cX9_read 301 = .ok (.iload_n 2, 1) := by decide +kernel
theorem dX9_read_302 : decode cX9_read 302 = .ok (.ifCond .lt 149, 3) := by decide +kernel
theorem dX9_read_305 : decode cX9_read 305 = .ok (.aload_n 0, 1) := by decide +kernel
theorem dX9_read_306 : decode cX9_read 306 = .ok (.getfield 25, 3) := by decide +kernel
theorem dX9_read_309 : decode cX9_read 309 = .ok (.iload_n 2, 1) := by decide +kernel
theorem dX9_read_310 : decode cX9_read 310 = .ok (.iaload, 1) := by decide +kernel
theorem dX9_read_311 : decode cX9_read 311 = .ok (.ldc 74, 2) := by decide +kernel
theorem dX9_read_313 : decode cX9_read 313 = .ok (.if_icmp .eq 132, 3) := by decide +kernel
theorem dX9_read_316 : decode cX9_read 316 = .ok (.aload_n 0, 1) := by decide +kernel
theorem dX9_read_317 : decode cX9_read 317 = .ok (.getfield 25, 3) := by decide +kernel
theorem dX9_read_320 : decode cX9_read 320 = .ok (.iload_n 2, 1) := by decide +kernel
theorem dX9_read_321 : decode cX9_read 321 = .ok (.iaload, 1) := by decide +kernel
theorem dX9_read_322 : decode cX9_read 322 = .ok (.invokestatic 113, 3) := by decide +kernel
theorem dX9_read_325 : decode cX9_read 325 = .ok (.istore_n 3, 1) := by decide +kernel
theorem dX9_read_326 : decode cX9_read 326 = .ok (.aload_n 0, 1) := by decide +kernel
theorem dX9_read_327 : decode cX9_read 327 = .ok (.getfield 28, 3) := by decide +kernel
theorem dX9_read_330 : decode cX9_read 330 = .ok (.iload_n 2, 1) := by decide +kernel
theorem dX9_read_331 : decode cX9_read 331 = .ok (.iload_n 2, 1) := by decide +kernel
theorem dX9_read_332 : decode cX9_read 332 = .ok (.iconst 1, 1) := by decide +kernel
theorem dX9_read_333 : decode cX9_read 333 = .ok (.iadd, 1) := by decide +kernel
theorem dX9_read_334 : decode cX9_read 334 = .ok (.iastore, 1) := by decide +kernel
theorem dX9_read_335 : decode cX9_read 335 = .ok (.aload_n 0, 1) := by decide +kernel
theorem dX9_read_336 : decode cX9_read 336 = .ok (.getfield 31, 3) := by decide +kernel
theorem dX9_read_339 : decode cX9_read 339 = .ok (.iload_n 2, 1) := by decide +kernel
theorem dX9_read_340 : decode cX9_read 340 = .ok (.iload_n 3, 1) := by decide +kernel
theorem dX9_read_341 : decode cX9_read 341 = .ok (.ifCond .le 14, 3) := by decide +kernel
theorem dX9_read_344 : decode cX9_read 344 = .ok (.aload_n 0, 1) := by decide +kernel
theorem dX9_read_345 : decode cX9_read 345 = .ok (.getfield 34, 3) := by decide +kernel
theorem dX9_read_348 : decode cX9_read 348 = .ok (.iload_n 2, 1) := by decide +kernel
theorem dX9_read_349 : decode cX9_read 349 = .ok (.iconst 1, 1) := by decide +kernel
theorem dX9_read_350 : decode cX9_read 350 = .ok (.iadd, 1) := by decide +kernel
theorem dX9_read_351 : decode cX9_read 351 = .ok (.iaload, 1) := by decide +kernel
theorem dX9_read_352 : decode cX9_read 352 = .ok (.goto 6, 3) := by decide +kernel
theorem dX9_read_355 : decode cX9_read 355 = .ok (.iload_n 2, 1) := by decide +kernel
theorem dX9_read_356 : decode cX9_read 356 = .ok (.iconst 1, 1) := by decide +kernel
theorem dX9_read_357 : decode cX9_read 357 = .ok (.iadd, 1) := by decide +kernel
theorem dX9_read_358 : decode cX9_read 358 = .ok (.iastore, 1) := by decide +kernel
theorem dX9_read_359 : decode cX9_read 359 = .ok (.iload_n 3, 1) := by decide +kernel
theorem dX9_read_360 : decode cX9_read 360 = .ok (.iconst 1, 1) := by decide +kernel
theorem dX9_read_361 : decode cX9_read 361 = .ok (.if_icmp .le 17, 3) := by decide +kernel
theorem dX9_read_364 : decode cX9_read 364 = .ok (.aload_n 0, 1) := by decide +kernel
theorem dX9_read_365 : decode cX9_read 365 = .ok (.getfield 34, 3) := by decide +kernel
theorem dX9_read_368 : decode cX9_read 368 = .ok (.aload_n 0, 1) := by decide +kernel
theorem dX9_read_369 : decode cX9_read 369 = .ok (.getfield 31, 3) := by decide +kernel
theorem dX9_read_372 : decode cX9_read 372 = .ok (.iload_n 2, 1) := by decide +kernel
theorem dX9_read_373 : decode cX9_read 373 = .ok (.iaload, 1) := by decide +kernel
theorem dX9_read_374 : decode cX9_read 374 = .ok (.iaload, 1) := by decide +kernel
theorem dX9_read_375 : decode cX9_read 375 = .ok (.goto 9, 3) := by decide +kernel
theorem dX9_read_378 : decode cX9_read 378 = .ok (.aload_n 0, 1) := by decide +kernel
theorem dX9_read_379 : decode cX9_read 379 = .ok (.getfield 31, 3) := by decide +kernel
theorem dX9_read_382 : decode cX9_read 382 = .ok (.iload_n 2, 1) := by decide +kernel
theorem dX9_read_383 : decode cX9_read 383 = .ok (.iaload, 1) := by decide +kernel
theorem dX9_read_384 : decode cX9_read 384 = .ok (.istore 4, 2) := by decide +kernel
theorem dX9_read_386 : decode cX9_read 386 = .ok (.aload_n 0, 1) := by decide +kernel
theorem dX9_read_387 : decode cX9_read 387 = .ok (.getfield 34, 3) := by decide +kernel
theorem dX9_read_390 : decode cX9_read 390 = .ok (.iload_n 2, 1) := by decide +kernel
theorem dX9_read_391 : decode cX9_read 391 = .ok (.aload_n 0, 1) := by decide +kernel
theorem dX9_read_392 : decode cX9_read 392 = .ok (.getfield 25, 3) := by decide +kernel
theorem dX9_read_395 : decode cX9_read 395 = .ok (.iload_n 2, 1) := by decide +kernel
theorem dX9_read_396 : decode cX9_read 396 = .ok (.iaload, 1) := by decide +kernel
theorem dX9_read_397 : decode cX9_read 397 = .ok (.iconst 3, 1) := by decide +kernel
theorem dX9_read_398 : decode cX9_read 398 = .ok (.if_icmp .ne 9, 3) := by decide +kernel
theorem dX9_read_401 : decode cX9_read 401 = .ok (.iload_n 2, 1) := by decide +kernel
theorem dX9_read_402 : decode cX9_read 402 = .ok (.iconst 4, 1) := by decide +kernel
theorem dX9_read_403 : decode cX9_read 403 = .ok (.iadd, 1) := by decide +kernel
theorem dX9_read_404 : decode cX9_read 404 = .ok (.goto 40, 3) := by decide +kernel
theorem dX9_read_407 : decode cX9_read 407 = .ok (.aload_n 0, 1) := by decide +kernel
theorem dX9_read_408 : decode cX9_read 408 = .ok (.getfield 25, 3) := by decide +kernel
theorem dX9_read_411 : decode cX9_read 411 = .ok (.iload_n 2, 1) := by decide +kernel
theorem dX9_read_412 : decode cX9_read 412 = .ok (.iaload, 1) := by decide +kernel
theorem dX9_read_413 : decode cX9_read 413 = .ok (.bipush 8, 2) := by decide +kernel
theorem dX9_read_415 : decode cX9_read 415 = .ok (.if_icmp .ne 10, 3) := by decide +kernel
theorem dX9_read_418 : decode cX9_read 418 = .ok (.iload 4, 2) := by decide +kernel
theorem dX9_read_420 : decode cX9_read 420 = .ok (.iconst 1, 1) := by decide +kernel
theorem dX9_read_421 : decode cX9_read 421 = .ok (.iadd, 1) := by decide +kernel
theorem dX9_read_422 : decode cX9_read 422 = .ok (.goto 22, 3) := by decide +kernel
theorem dX9_read_425 : decode cX9_read 425 = .ok (.aload_n 0, 1) := by decide +kernel
theorem dX9_read_426 : decode cX9_read 426 = .ok (.getfield 25, 3) := by decide +kernel
theorem dX9_read_429 : decode cX9_read 429 = .ok (.iload_n 2, 1) := by decide +kernel
theorem dX9_read_430 : decode cX9_read 430 = .ok (.iaload, 1) := by decide +kernel
theorem dX9_read_431 : decode cX9_read 431 = .ok (.bipush 15, 2) := by decide +kernel
theorem dX9_read_433 : decode cX9_read 433 = .ok (.if_icmp .ne 9, 3) := by decide +kernel
theorem dX9_read_436 : decode cX9_read 436 = .ok (.iload_n 2, 1) := by decide +kernel
theorem dX9_read_437 : decode cX9_read 437 = .ok (.iconst 2, 1) := by decide +kernel
theorem dX9_read_438 : decode cX9_read 438 = .ok (.iadd, 1) := by decide +kernel
theorem dX9_read_439 : decode cX9_read 439 = .ok (.goto 5, 3) := by decide +kernel
theorem dX9_read_442 : decode cX9_read 442 = .ok (.iload 4, 2) := by decide +kernel
theorem dX9_read_444 : decode cX9_read 444 = .ok (.iastore, 1) := by decide +kernel
theorem dX9_read_445 : decode cX9_read 445 = .ok (.iinc 2 (-1), 3) := by decide +kernel
theorem dX9_read_448 : decode cX9_read 448 = .ok (.goto (-147), 3) := by decide +kernel
theorem dX9_read_451 : decode cX9_read 451 = .ok (.ldc 74, 2) := by decide +kernel
theorem dX9_read_453 : decode cX9_read 453 = .ok (.ireturn, 1) := by decide +kernel
theorem dX9_fault_0 : decode cX9_fault 0 = .ok (.aload_n 0, 1) := by decide +kernel
theorem dX9_fault_1 : decode cX9_fault 1 = .ok (.invokevirtual 116, 3) := by decide +kernel
theorem dX9_fault_4 : decode cX9_fault 4 = .ok (.ireturn, 1) := by decide +kernel
theorem dX9_isTerm_0 : decode cX9_isTerm 0 = .ok (.aload_n 0, 1) := by decide +kernel
theorem dX9_isTerm_1 : decode cX9_isTerm 1 = .ok (.getfield 25, 3) := by decide +kernel
theorem dX9_isTerm_4 : decode cX9_isTerm 4 = .ok (.iload_n 1, 1) := by decide +kernel
theorem dX9_isTerm_5 : decode cX9_isTerm 5 = .ok (.iaload, 1) := by decide +kernel
theorem dX9_isTerm_6 : decode cX9_isTerm 6 = .ok (.ldc 74, 2) := by decide +kernel
theorem dX9_isTerm_8 : decode cX9_isTerm 8 = .ok (.if_icmp .eq 18, 3) := by decide +kernel
theorem dX9_isTerm_11 : decode cX9_isTerm 11 = .ok (.aload_n 0, 1) := by decide +kernel
theorem dX9_isTerm_12 : decode cX9_isTerm 12 = .ok (.getfield 25, 3) := by decide +kernel
theorem dX9_isTerm_15 : decode cX9_isTerm 15 = .ok (.iload_n 1, 1) := by decide +kernel
theorem dX9_isTerm_16 : decode cX9_isTerm 16 = .ok (.iaload, 1) := by decide +kernel
theorem dX9_isTerm_17 : decode cX9_isTerm 17 = .ok (.bipush 10, 2) := by decide +kernel
theorem dX9_isTerm_19 : decode cX9_isTerm 19 = .ok (.if_icmp .ge 7, 3) := by decide +kernel
theorem dX9_isTerm_22 : decode cX9_isTerm 22 = .ok (.iconst 1, 1) := by decide +kernel
theorem dX9_isTerm_23 : decode cX9_isTerm 23 = .ok (.goto 4, 3) := by decide +kernel
theorem dX9_isTerm_26 : decode cX9_isTerm 26 = .ok (.iconst 0, 1) := by decide +kernel
theorem dX9_isTerm_27 : decode cX9_isTerm 27 = .ok (.ireturn, 1) := by decide +kernel
theorem dX9_cut_0 : decode cX9_cut 0 = .ok (.lload_n 0, 1) := by decide +kernel
theorem dX9_cut_1 : decode cX9_cut 1 = .ok (.ldc2_w 120, 3) := by decide +kernel
theorem dX9_cut_4 : decode cX9_cut 4 = .ok (.lcmp, 1) := by decide +kernel
theorem dX9_cut_5 : decode cX9_cut 5 = .ok (.ifCond .ge 8, 3) := by decide +kernel
theorem dX9_cut_8 : decode cX9_cut 8 = .ok (.ldc 122, 2) := by decide +kernel
theorem dX9_cut_10 : decode cX9_cut 10 = .ok (.goto 18, 3) := by decide +kernel
theorem dX9_cut_13 : decode cX9_cut 13 = .ok (.lload_n 0, 1) := by decide +kernel
theorem dX9_cut_14 : decode cX9_cut 14 = .ok (.ldc2_w 123, 3) := by decide +kernel
theorem dX9_cut_17 : decode cX9_cut 17 = .ok (.lcmp, 1) := by decide +kernel
theorem dX9_cut_18 : decode cX9_cut 18 = .ok (.ifCond .le 8, 3) := by decide +kernel
theorem dX9_cut_21 : decode cX9_cut 21 = .ok (.ldc 125, 2) := by decide +kernel
theorem dX9_cut_23 : decode cX9_cut 23 = .ok (.goto 5, 3) := by decide +kernel
theorem dX9_cut_26 : decode cX9_cut 26 = .ok (.lload_n 0, 1) := by decide +kernel
theorem dX9_cut_27 : decode cX9_cut 27 = .ok (.l2i, 1) := by decide +kernel
theorem dX9_cut_28 : decode cX9_cut 28 = .ok (.ireturn, 1) := by decide +kernel
theorem dX9_byteOf_0 : decode cX9_byteOf 0 = .ok (.iload_n 0, 1) := by decide +kernel
theorem dX9_byteOf_1 : decode cX9_byteOf 1 = .ok (.sipush 256, 3) := by decide +kernel
theorem dX9_byteOf_4 : decode cX9_byteOf 4 = .ok (.irem, 1) := by decide +kernel
theorem dX9_byteOf_5 : decode cX9_byteOf 5 = .ok (.sipush 256, 3) := by decide +kernel
theorem dX9_byteOf_8 : decode cX9_byteOf 8 = .ok (.iadd, 1) := by decide +kernel
theorem dX9_byteOf_9 : decode cX9_byteOf 9 = .ok (.sipush 256, 3) := by decide +kernel
theorem dX9_byteOf_12 : decode cX9_byteOf 12 = .ok (.irem, 1) := by decide +kernel
theorem dX9_byteOf_13 : decode cX9_byteOf 13 = .ok (.istore_n 1, 1) := by decide +kernel
theorem dX9_byteOf_14 : decode cX9_byteOf 14 = .ok (.iload_n 1, 1) := by decide +kernel
theorem dX9_byteOf_15 : decode cX9_byteOf 15 = .ok (.bipush 127, 2) := by decide +kernel
theorem dX9_byteOf_17 : decode cX9_byteOf 17 = .ok (.if_icmp .le 11, 3) := by decide +kernel
theorem dX9_byteOf_20 : decode cX9_byteOf 20 = .ok (.iload_n 1, 1) := by decide +kernel
theorem dX9_byteOf_21 : decode cX9_byteOf 21 = .ok (.sipush 256, 3) := by decide +kernel
theorem dX9_byteOf_24 : decode cX9_byteOf 24 = .ok (.isub, 1) := by decide +kernel
theorem dX9_byteOf_25 : decode cX9_byteOf 25 = .ok (.goto 4, 3) := by decide +kernel
theorem dX9_byteOf_28 : decode cX9_byteOf 28 = .ok (.iload_n 1, 1) := by decide +kernel
theorem dX9_byteOf_29 : decode cX9_byteOf 29 = .ok (.ireturn, 1) := by decide +kernel
theorem dX9_three_0 : decode cX9_three 0 = .ok (.bipush 100, 2) := by decide +kernel
theorem dX9_three_2 : decode cX9_three 2 = .ok (.aload_n 0, 1) := by decide +kernel
theorem dX9_three_3 : decode cX9_three 3 = .ok (.getfield 22, 3) := by decide +kernel
theorem dX9_three_6 : decode cX9_three 6 = .ok (.iload_n 1, 1) := by decide +kernel
theorem dX9_three_7 : decode cX9_three 7 = .ok (.iconst 1, 1) := by decide +kernel
theorem dX9_three_8 : decode cX9_three 8 = .ok (.iadd, 1) := by decide +kernel
theorem dX9_three_9 : decode cX9_three 9 = .ok (.iaload, 1) := by decide +kernel
theorem dX9_three_10 : decode cX9_three 10 = .ok (.bipush 48, 2) := by decide +kernel
theorem dX9_three_12 : decode cX9_three 12 = .ok (.isub, 1) := by decide +kernel
theorem dX9_three_13 : decode cX9_three 13 = .ok (.imul, 1) := by decide +kernel
theorem dX9_three_14 : decode cX9_three 14 = .ok (.bipush 10, 2) := by decide +kernel
theorem dX9_three_16 : decode cX9_three 16 = .ok (.aload_n 0, 1) := by decide +kernel
theorem dX9_three_17 : decode cX9_three 17 = .ok (.getfield 22, 3) := by decide +kernel
theorem dX9_three_20 : decode cX9_three 20 = .ok (.iload_n 1, 1) := by decide +kernel
theorem dX9_three_21 : decode cX9_three 21 = .ok (.iconst 2, 1) := by decide +kernel
theorem dX9_three_22 : decode cX9_three 22 = .ok (.iadd, 1) := by decide +kernel
theorem dX9_three_23 : decode cX9_three 23 = .ok (.iaload, 1) := by decide +kernel
theorem dX9_three_24 : decode cX9_three 24 = .ok (.bipush 48, 2) := by decide +kernel
theorem dX9_three_26 : decode cX9_three 26 = .ok (.isub, 1) := by decide +kernel
theorem dX9_three_27 : decode cX9_three 27 = .ok (.imul, 1) := by decide +kernel
theorem dX9_three_28 : decode cX9_three 28 = .ok (.iadd, 1) := by decide +kernel
theorem dX9_three_29 : decode cX9_three 29 = .ok (.aload_n 0, 1) := by decide +kernel
theorem dX9_three_30 : decode cX9_three 30 = .ok (.getfield 22, 3) := by decide +kernel
theorem dX9_three_33 : decode cX9_three 33 = .ok (.iload_n 1, 1) := by decide +kernel
theorem dX9_three_34 : decode cX9_three 34 = .ok (.iconst 3, 1) := by decide +kernel
theorem dX9_three_35 : decode cX9_three 35 = .ok (.iadd, 1) := by decide +kernel
theorem dX9_three_36 : decode cX9_three 36 = .ok (.iaload, 1) := by decide +kernel
theorem dX9_three_37 : decode cX9_three 37 = .ok (.iadd, 1) := by decide +kernel
theorem dX9_three_38 : decode cX9_three 38 = .ok (.bipush 48, 2) := by decide +kernel
theorem dX9_three_40 : decode cX9_three 40 = .ok (.isub, 1) := by decide +kernel
theorem dX9_three_41 : decode cX9_three 41 = .ok (.ireturn, 1) := by decide +kernel
theorem dX9_layRow_0 : decode cX9_layRow 0 = .ok (.aload_n 0, 1) := by decide +kernel
theorem dX9_layRow_1 : decode cX9_layRow 1 = .ok (.getfield 102, 3) := by decide +kernel
theorem dX9_layRow_4 : decode cX9_layRow 4 = .ok (.iconst 1, 1) := by decide +kernel
theorem dX9_layRow_5 : decode cX9_layRow 5 = .ok (.isub, 1) := by decide +kernel
theorem dX9_layRow_6 : decode cX9_layRow 6 = .ok (.istore_n 1, 1) := by decide +kernel
theorem dX9_layRow_7 : decode cX9_layRow 7 = .ok (.iload_n 1, 1) := by decide +kernel
theorem dX9_layRow_8 : decode cX9_layRow 8 = .ok (.ifCond .lt 47, 3) := by decide +kernel
theorem dX9_layRow_11 : decode cX9_layRow 11 = .ok (.aload_n 0, 1) := by decide +kernel
theorem dX9_layRow_12 : decode cX9_layRow 12 = .ok (.getfield 25, 3) := by decide +kernel
theorem dX9_layRow_15 : decode cX9_layRow 15 = .ok (.iload_n 1, 1) := by decide +kernel
theorem dX9_layRow_16 : decode cX9_layRow 16 = .ok (.iaload, 1) := by decide +kernel
theorem dX9_layRow_17 : decode cX9_layRow 17 = .ok (.ldc 74, 2) := by decide +kernel
theorem dX9_layRow_19 : decode cX9_layRow 19 = .ok (.if_icmp .eq 30, 3) := by decide +kernel
theorem dX9_layRow_22 : decode cX9_layRow 22 = .ok (.aload_n 0, 1) := by decide +kernel
theorem dX9_layRow_23 : decode cX9_layRow 23 = .ok (.getfield 40, 3) := by decide +kernel
theorem dX9_layRow_26 : decode cX9_layRow 26 = .ok (.iload_n 1, 1) := by decide +kernel
theorem dX9_layRow_27 : decode cX9_layRow 27 = .ok (.aload_n 0, 1) := by decide +kernel
theorem dX9_layRow_28 : decode cX9_layRow 28 = .ok (.iload_n 1, 1) := by decide +kernel
theorem dX9_layRow_29 : decode cX9_layRow 29 = .ok (.invokevirtual 126, 3) := by decide +kernel
theorem dX9_layRow_32 : decode cX9_layRow 32 = .ok (.ifCond .eq 11, 3) := by decide +kernel
theorem dX9_layRow_35 : decode cX9_layRow 35 = .ok (.aload_n 0, 1) := by decide +kernel
theorem dX9_layRow_36 : decode cX9_layRow 36 = .ok (.iload_n 1, 1) := by decide +kernel
theorem dX9_layRow_37 : decode cX9_layRow 37 = .ok (.invokevirtual 129, 3) := by decide +kernel
theorem dX9_layRow_40 : decode cX9_layRow 40 = .ok (.goto 8, 3) := by decide +kernel
theorem dX9_layRow_43 : decode cX9_layRow 43 = .ok (.aload_n 0, 1) := by decide +kernel
theorem dX9_layRow_44 : decode cX9_layRow 44 = .ok (.iload_n 1, 1) := by decide +kernel
theorem dX9_layRow_45 : decode cX9_layRow 45 = .ok (.invokevirtual 132, 3) := by decide +kernel
theorem dX9_layRow_48 : decode cX9_layRow 48 = .ok (.iastore, 1) := by decide +kernel
theorem dX9_layRow_49 : decode cX9_layRow 49 = .ok (.iinc 1 (-1), 3) := by decide +kernel
theorem dX9_layRow_52 : decode cX9_layRow 52 = .ok (.goto (-45), 3) := by decide +kernel
theorem dX9_layRow_55 : decode cX9_layRow 55 = .ok (.return_, 1) := by decide +kernel
theorem dX9_number_0 : decode cX9_number 0 = .ok (.aload_n 0, 1) := by decide +kernel
theorem dX9_number_1 : decode cX9_number 1 = .ok (.getfield 40, 3) := by decide +kernel
theorem dX9_number_4 : decode cX9_number 4 = .ok (.aload_n 0, 1) := by decide +kernel
theorem dX9_number_5 : decode cX9_number 5 = .ok (.getfield 28, 3) := by decide +kernel
theorem dX9_number_8 : decode cX9_number 8 = .ok (.iload_n 1, 1) := by decide +kernel
theorem dX9_number_9 : decode cX9_number 9 = .ok (.iaload, 1) := by decide +kernel
theorem dX9_number_10 : decode cX9_number 10 = .ok (.bipush 60, 2) := by decide +kernel
theorem dX9_number_12 : decode cX9_number 12 = .ok (.if_icmp .ge 12, 3) := by decide +kernel
theorem dX9_number_15 : decode cX9_number 15 = .ok (.aload_n 0, 1) := by decide +kernel
theorem dX9_number_16 : decode cX9_number 16 = .ok (.getfield 28, 3) := by decide +kernel
theorem dX9_number_19 : decode cX9_number 19 = .ok (.iload_n 1, 1) := by decide +kernel
theorem dX9_number_20 : decode cX9_number 20 = .ok (.iaload, 1) := by decide +kernel
theorem dX9_number_21 : decode cX9_number 21 = .ok (.goto 4, 3) := by decide +kernel
theorem dX9_number_24 : decode cX9_number 24 = .ok (.iconst 0, 1) := by decide +kernel
theorem dX9_number_25 : decode cX9_number 25 = .ok (.iaload, 1) := by decide +kernel
theorem dX9_number_26 : decode cX9_number 26 = .ok (.istore_n 2, 1) := by decide +kernel
theorem dX9_number_27 : decode cX9_number 27 = .ok (.aload_n 0, 1) := by decide +kernel
theorem dX9_number_28 : decode cX9_number 28 = .ok (.getfield 40, 3) := by decide +kernel
theorem dX9_number_31 : decode cX9_number 31 = .ok (.aload_n 0, 1) := by decide +kernel
theorem dX9_number_32 : decode cX9_number 32 = .ok (.getfield 31, 3) := by decide +kernel
theorem dX9_number_35 : decode cX9_number 35 = .ok (.iload_n 1, 1) := by decide +kernel
theorem dX9_number_36 : decode cX9_number 36 = .ok (.iaload, 1) := by decide +kernel
theorem dX9_number_37 : decode cX9_number 37 = .ok (.bipush 60, 2) := by decide +kernel
theorem dX9_number_39 : decode cX9_number 39 = .ok (.if_icmp .ge 12, 3) := by decide +kernel
theorem dX9_number_42 : decode cX9_number 42 = .ok (.aload_n 0, 1) := by decide +kernel
theorem dX9_number_43 : decode cX9_number 43 = .ok (.getfield 31, 3) := by decide +kernel
theorem dX9_number_46 : decode cX9_number 46 = .ok (.iload_n 1, 1) := by decide +kernel
theorem dX9_number_47 : decode cX9_number 47 = .ok (.iaload, 1) := by decide +kernel
theorem dX9_number_48 : decode cX9_number 48 = .ok (.goto 4, 3) := by decide +kernel
theorem dX9_number_51 : decode cX9_number 51 = .ok (.iconst 0, 1) := by decide +kernel
theorem dX9_number_52 : decode cX9_number 52 = .ok (.iaload, 1) := by decide +kernel
theorem dX9_number_53 : decode cX9_number 53 = .ok (.istore_n 3, 1) := by decide +kernel
theorem dX9_number_54 : decode cX9_number 54 = .ok (.aload_n 0, 1) := by decide +kernel
theorem dX9_number_55 : decode cX9_number 55 = .ok (.getfield 25, 3) := by decide +kernel
theorem dX9_number_58 : decode cX9_number 58 = .ok (.iload_n 1, 1) := by decide +kernel
theorem dX9_number_59 : decode cX9_number 59 = .ok (.iaload, 1) := by decide +kernel
theorem dX9_number_60 : decode cX9_number 60 = .ok (.invokestatic 113, 3) := by decide +kernel
theorem dX9_number_63 : decode cX9_number 63 = .ok (.istore 4, 2) := by decide +kernel
theorem dX9_number_65 : decode cX9_number 65 = .ok (.iload 4, 2) := by decide +kernel
theorem dX9_number_67 : decode cX9_number 67 = .ok (.ifCond .le 9, 3) := by decide +kernel
theorem dX9_number_70 : decode cX9_number 70 = .ok (.iload_n 2, 1) := by decide +kernel
theorem dX9_number_71 : decode cX9_number 71 = .ok (.ldc 74, 2) := by decide +kernel
theorem dX9_number_73 : decode cX9_number 73 = .ok (.if_icmp .eq 15, 3) := by decide +kernel
theorem dX9_number_76 : decode cX9_number 76 = .ok (.iload 4, 2) := by decide +kernel
theorem dX9_number_78 : decode cX9_number 78 = .ok (.iconst 1, 1) := by decide +kernel
theorem dX9_number_79 : decode cX9_number 79 = .ok (.if_icmp .le 12, 3) := by decide +kernel
theorem dX9_number_82 : decode cX9_number 82 = .ok (.iload_n 3, 1) := by decide +kernel
theorem dX9_number_83 : decode cX9_number 83 = .ok (.ldc 74, 2) := by decide +kernel
theorem dX9_number_85 : decode cX9_number 85 = .ok (.if_icmp .ne 6, 3) := by decide +kernel
theorem dX9_number_88 : decode cX9_number 88 = .ok (.ldc 74, 2) := by decide +kernel
theorem dX9_number_90 : decode cX9_number 90 = .ok (.ireturn, 1) := by decide +kernel
theorem dX9_number_91 : decode cX9_number 91 = .ok (.aload_n 0, 1) := by decide +kernel
theorem dX9_number_92 : decode cX9_number 92 = .ok (.getfield 25, 3) := by decide +kernel
theorem dX9_number_95 : decode cX9_number 95 = .ok (.iload_n 1, 1) := by decide +kernel
theorem dX9_number_96 : decode cX9_number 96 = .ok (.iaload, 1) := by decide +kernel
theorem dX9_number_97 : decode cX9_number 97 = .ok (.tableswitch 152 1 8 #[47, 87, 97, 103, 106, 115, 124, 133], 47) := by decide +kernel
theorem dX9_number_144 : decode cX9_number 144 = .ok (.aload_n 0, 1) := by decide +kernel
theorem dX9_number_145 : decode cX9_number 145 = .ok (.getfield 43, 3) := by decide +kernel
theorem dX9_number_148 : decode cX9_number 148 = .ok (.aload_n 0, 1) := by decide +kernel
theorem dX9_number_149 : decode cX9_number 149 = .ok (.getfield 22, 3) := by decide +kernel
theorem dX9_number_152 : decode cX9_number 152 = .ok (.iload_n 1, 1) := by decide +kernel
theorem dX9_number_153 : decode cX9_number 153 = .ok (.iaload, 1) := by decide +kernel
theorem dX9_number_154 : decode cX9_number 154 = .ok (.bipush 97, 2) := by decide +kernel
theorem dX9_number_156 : decode cX9_number 156 = .ok (.isub, 1) := by decide +kernel
theorem dX9_number_157 : decode cX9_number 157 = .ok (.iaload, 1) := by decide +kernel
theorem dX9_number_158 : decode cX9_number 158 = .ok (.sipush 1000, 3) := by decide +kernel
theorem dX9_number_161 : decode cX9_number 161 = .ok (.if_icmp .ne 8, 3) := by decide +kernel
theorem dX9_number_164 : decode cX9_number 164 = .ok (.ldc 74, 2) := by decide +kernel
theorem dX9_number_166 : decode cX9_number 166 = .ok (.goto 17, 3) := by decide +kernel
theorem dX9_number_169 : decode cX9_number 169 = .ok (.aload_n 0, 1) := by decide +kernel
theorem dX9_number_170 : decode cX9_number 170 = .ok (.getfield 43, 3) := by decide +kernel
theorem dX9_number_173 : decode cX9_number 173 = .ok (.aload_n 0, 1) := by decide +kernel
theorem dX9_number_174 : decode cX9_number 174 = .ok (.getfield 22, 3) := by decide +kernel
theorem dX9_number_177 : decode cX9_number 177 = .ok (.iload_n 1, 1) := by decide +kernel
theorem dX9_number_178 : decode cX9_number 178 = .ok (.iaload, 1) := by decide +kernel
theorem dX9_number_179 : decode cX9_number 179 = .ok (.bipush 97, 2) := by decide +kernel
theorem dX9_number_181 : decode cX9_number 181 = .ok (.isub, 1) := by decide +kernel
theorem dX9_number_182 : decode cX9_number 182 = .ok (.iaload, 1) := by decide +kernel
theorem dX9_number_183 : decode cX9_number 183 = .ok (.ireturn, 1) := by decide +kernel
theorem dX9_number_184 : decode cX9_number 184 = .ok (.aload_n 0, 1) := by decide +kernel
theorem dX9_number_185 : decode cX9_number 185 = .ok (.getfield 22, 3) := by decide +kernel
theorem dX9_number_188 : decode cX9_number 188 = .ok (.iload_n 1, 1) := by decide +kernel
theorem dX9_number_189 : decode cX9_number 189 = .ok (.iaload, 1) := by decide +kernel
theorem dX9_number_190 : decode cX9_number 190 = .ok (.bipush 48, 2) := by decide +kernel
theorem dX9_number_192 : decode cX9_number 192 = .ok (.isub, 1) := by decide +kernel
theorem dX9_number_193 : decode cX9_number 193 = .ok (.ireturn, 1) := by decide +kernel
theorem dX9_number_194 : decode cX9_number 194 = .ok (.aload_n 0, 1) := by decide +kernel
theorem dX9_number_195 : decode cX9_number 195 = .ok (.iload_n 1, 1) := by decide +kernel
theorem dX9_number_196 : decode cX9_number 196 = .ok (.invokevirtual 135, 3) := by decide +kernel
theorem dX9_number_199 : decode cX9_number 199 = .ok (.ireturn, 1) := by decide +kernel
theorem dX9_number_200 : decode cX9_number 200 = .ok (.iload_n 2, 1) := by decide +kernel
theorem dX9_number_201 : decode cX9_number 201 = .ok (.ineg, 1) := by decide +kernel
theorem dX9_number_202 : decode cX9_number 202 = .ok (.ireturn, 1) := by decide +kernel
theorem dX9_number_203 : decode cX9_number 203 = .ok (.iload_n 2, 1) := by decide +kernel
theorem dX9_number_204 : decode cX9_number 204 = .ok (.i2l, 1) := by decide +kernel
theorem dX9_number_205 : decode cX9_number 205 = .ok (.iload_n 3, 1) := by decide +kernel
theorem dX9_number_206 : decode cX9_number 206 = .ok (.i2l, 1) := by decide +kernel
theorem dX9_number_207 : decode cX9_number 207 = .ok (.ladd, 1) := by decide +kernel
theorem dX9_number_208 : decode cX9_number 208 = .ok (.invokestatic 138, 3) := by decide +kernel
theorem dX9_number_211 : decode cX9_number 211 = .ok (.ireturn, 1) := by decide +kernel
theorem dX9_number_212 : decode cX9_number 212 = .ok (.iload_n 2, 1) := by decide +kernel
theorem dX9_number_213 : decode cX9_number 213 = .ok (.i2l, 1) := by decide +kernel
theorem dX9_number_214 : decode cX9_number 214 = .ok (.iload_n 3, 1) := by decide +kernel
theorem dX9_number_215 : decode cX9_number 215 = .ok (.i2l, 1) := by decide +kernel
theorem dX9_number_216 : decode cX9_number 216 = .ok (.lsub, 1) := by decide +kernel
theorem dX9_number_217 : decode cX9_number 217 = .ok (.invokestatic 138, 3) := by decide +kernel
theorem dX9_number_220 : decode cX9_number 220 = .ok (.ireturn, 1) := by decide +kernel
theorem dX9_number_221 : decode cX9_number 221 = .ok (.iload_n 2, 1) := by decide +kernel
theorem dX9_number_222 : decode cX9_number 222 = .ok (.i2l, 1) := by decide +kernel
theorem dX9_number_223 : decode cX9_number 223 = .ok (.iload_n 3, 1) := by decide +kernel
theorem dX9_number_224 : decode cX9_number 224 = .ok (.i2l, 1) := by decide +kernel
theorem dX9_number_225 : decode cX9_number 225 = .ok (.lmul, 1) := by decide +kernel
theorem dX9_number_226 : decode cX9_number 226 = .ok (.invokestatic 138, 3) := by decide +kernel
theorem dX9_number_229 : decode cX9_number 229 = .ok (.ireturn, 1) := by decide +kernel
theorem dX9_number_230 : decode cX9_number 230 = .ok (.iload_n 2, 1) := by decide +kernel
theorem dX9_number_231 : decode cX9_number 231 = .ok (.aload_n 0, 1) := by decide +kernel
theorem dX9_number_232 : decode cX9_number 232 = .ok (.getfield 22, 3) := by decide +kernel
theorem dX9_number_235 : decode cX9_number 235 = .ok (.aload_n 0, 1) := by decide +kernel
theorem dX9_number_236 : decode cX9_number 236 = .ok (.getfield 34, 3) := by decide +kernel
theorem dX9_number_239 : decode cX9_number 239 = .ok (.iload_n 1, 1) := by decide +kernel
theorem dX9_number_240 : decode cX9_number 240 = .ok (.iaload, 1) := by decide +kernel
theorem dX9_number_241 : decode cX9_number 241 = .ok (.iconst 1, 1) := by decide +kernel
theorem dX9_number_242 : decode cX9_number 242 = .ok (.isub, 1) := by decide +kernel
theorem dX9_number_243 : decode cX9_number 243 = .ok (.iaload, 1) := by decide +kernel
theorem dX9_number_244 : decode cX9_number 244 = .ok (.bipush 48, 2) := by decide +kernel
theorem dX9_number_246 : decode cX9_number 246 = .ok (.isub, 1) := by decide +kernel
theorem dX9_number_247 : decode cX9_number 247 = .ok (.irem, 1) := by decide +kernel
theorem dX9_number_248 : decode cX9_number 248 = .ok (.ireturn, 1) := by decide +kernel
theorem dX9_number_249 : decode cX9_number 249 = .ok (.iload_n 2, 1) := by decide +kernel
theorem dX9_number_250 : decode cX9_number 250 = .ok (.invokestatic 142, 3) := by decide +kernel
theorem dX9_number_253 : decode cX9_number 253 = .ok (.ireturn, 1) := by decide +kernel
theorem dX9_not_0 : decode cX9_not 0 = .ok (.iload_n 0, 1) := by decide +kernel
theorem dX9_not_1 : decode cX9_not 1 = .ok (.iconst 2, 1) := by decide +kernel
theorem dX9_not_2 : decode cX9_not 2 = .ok (.if_icmp .ne 7, 3) := by decide +kernel
theorem dX9_not_5 : decode cX9_not 5 = .ok (.iconst 2, 1) := by decide +kernel
theorem dX9_not_6 : decode cX9_not 6 = .ok (.goto 6, 3) := by decide +kernel
theorem dX9_not_9 : decode cX9_not 9 = .ok (.iconst 1, 1) := by decide +kernel
theorem dX9_not_10 : decode cX9_not 10 = .ok (.iload_n 0, 1) := by decide +kernel
theorem dX9_not_11 : decode cX9_not 11 = .ok (.isub, 1) := by decide +kernel
theorem dX9_not_12 : decode cX9_not 12 = .ok (.ireturn, 1) := by decide +kernel
theorem dX9_both_0 : decode cX9_both 0 = .ok (.iload_n 0, 1) := by decide +kernel
theorem dX9_both_1 : decode cX9_both 1 = .ok (.ifCond .eq 7, 3) := by decide +kernel
theorem dX9_both_4 : decode cX9_both 4 = .ok (.iload_n 1, 1) := by decide +kernel
theorem dX9_both_5 : decode cX9_both 5 = .ok (.ifCond .ne 7, 3) := by decide +kernel
theorem dX9_both_8 : decode cX9_both 8 = .ok (.iconst 0, 1) := by decide +kernel
theorem dX9_both_9 : decode cX9_both 9 = .ok (.goto 18, 3) := by decide +kernel
theorem dX9_both_12 : decode cX9_both 12 = .ok (.iload_n 0, 1) := by decide +kernel
theorem dX9_both_13 : decode cX9_both 13 = .ok (.iconst 2, 1) := by decide +kernel
theorem dX9_both_14 : decode cX9_both 14 = .ok (.if_icmp .eq 8, 3) := by decide +kernel
theorem dX9_both_17 : decode cX9_both 17 = .ok (.iload_n 1, 1) := by decide +kernel
theorem dX9_both_18 : decode cX9_both 18 = .ok (.iconst 2, 1) := by decide +kernel
theorem dX9_both_19 : decode cX9_both 19 = .ok (.if_icmp .ne 7, 3) := by decide +kernel
theorem dX9_both_22 : decode cX9_both 22 = .ok (.iconst 2, 1) := by decide +kernel
theorem dX9_both_23 : decode cX9_both 23 = .ok (.goto 4, 3) := by decide +kernel
theorem dX9_both_26 : decode cX9_both 26 = .ok (.iconst 1, 1) := by decide +kernel
theorem dX9_both_27 : decode cX9_both 27 = .ok (.ireturn, 1) := by decide +kernel
theorem dX9_either_0 : decode cX9_either 0 = .ok (.iload_n 0, 1) := by decide +kernel
theorem dX9_either_1 : decode cX9_either 1 = .ok (.invokestatic 145, 3) := by decide +kernel
theorem dX9_either_4 : decode cX9_either 4 = .ok (.iload_n 1, 1) := by decide +kernel
theorem dX9_either_5 : decode cX9_either 5 = .ok (.invokestatic 145, 3) := by decide +kernel
theorem dX9_either_8 : decode cX9_either 8 = .ok (.invokestatic 148, 3) := by decide +kernel
theorem dX9_either_11 : decode cX9_either 11 = .ok (.invokestatic 145, 3) := by decide +kernel
theorem dX9_either_14 : decode cX9_either 14 = .ok (.ireturn, 1) := by decide +kernel
theorem dX9_truthAt_0 : decode cX9_truthAt 0 = .ok (.aload_n 0, 1) := by decide +kernel
theorem dX9_truthAt_1 : decode cX9_truthAt 1 = .ok (.getfield 40, 3) := by decide +kernel
theorem dX9_truthAt_4 : decode cX9_truthAt 4 = .ok (.aload_n 0, 1) := by decide +kernel
theorem dX9_truthAt_5 : decode cX9_truthAt 5 = .ok (.getfield 28, 3) := by decide +kernel
theorem dX9_truthAt_8 : decode cX9_truthAt 8 = .ok (.iload_n 1, 1) := by decide +kernel
theorem dX9_truthAt_9 : decode cX9_truthAt 9 = .ok (.iaload, 1) := by decide +kernel
theorem dX9_truthAt_10 : decode cX9_truthAt 10 = .ok (.iaload, 1) := by decide +kernel
theorem dX9_truthAt_11 : decode cX9_truthAt 11 = .ok (.istore_n 2, 1) := by decide +kernel
theorem dX9_truthAt_12 : decode cX9_truthAt 12 = .ok (.aload_n 0, 1) := by decide +kernel
theorem dX9_truthAt_13 : decode cX9_truthAt 13 = .ok (.getfield 25, 3) := by decide +kernel
theorem dX9_truthAt_16 : decode cX9_truthAt 16 = .ok (.iload_n 1, 1) := by decide +kernel
theorem dX9_truthAt_17 : decode cX9_truthAt 17 = .ok (.iaload, 1) := by decide +kernel
theorem dX9_truthAt_18 : decode cX9_truthAt 18 = .ok (.invokestatic 113, 3) := by decide +kernel
theorem dX9_truthAt_21 : decode cX9_truthAt 21 = .ok (.iconst 1, 1) := by decide +kernel
theorem dX9_truthAt_22 : decode cX9_truthAt 22 = .ok (.if_icmp .le 17, 3) := by decide +kernel
theorem dX9_truthAt_25 : decode cX9_truthAt 25 = .ok (.aload_n 0, 1) := by decide +kernel
theorem dX9_truthAt_26 : decode cX9_truthAt 26 = .ok (.getfield 40, 3) := by decide +kernel
theorem dX9_truthAt_29 : decode cX9_truthAt 29 = .ok (.aload_n 0, 1) := by decide +kernel
theorem dX9_truthAt_30 : decode cX9_truthAt 30 = .ok (.getfield 31, 3) := by decide +kernel
theorem dX9_truthAt_33 : decode cX9_truthAt 33 = .ok (.iload_n 1, 1) := by decide +kernel
theorem dX9_truthAt_34 : decode cX9_truthAt 34 = .ok (.iaload, 1) := by decide +kernel
theorem dX9_truthAt_35 : decode cX9_truthAt 35 = .ok (.iaload, 1) := by decide +kernel
theorem dX9_truthAt_36 : decode cX9_truthAt 36 = .ok (.goto 4, 3) := by decide +kernel
theorem dX9_truthAt_39 : decode cX9_truthAt 39 = .ok (.iconst 0, 1) := by decide +kernel
theorem dX9_truthAt_40 : decode cX9_truthAt 40 = .ok (.istore_n 3, 1) := by decide +kernel
theorem dX9_truthAt_41 : decode cX9_truthAt 41 = .ok (.aload_n 0, 1) := by decide +kernel
theorem dX9_truthAt_42 : decode cX9_truthAt 42 = .ok (.getfield 25, 3) := by decide +kernel
theorem dX9_truthAt_45 : decode cX9_truthAt 45 = .ok (.iload_n 1, 1) := by decide +kernel
theorem dX9_truthAt_46 : decode cX9_truthAt 46 = .ok (.iaload, 1) := by decide +kernel
theorem dX9_truthAt_47 : decode cX9_truthAt 47 = .ok (.tableswitch 104 10 14 #[33, 60, 87, 93, 99], 33) := by decide +kernel
theorem dX9_truthAt_80 : decode cX9_truthAt 80 = .ok (.iload_n 2, 1) := by decide +kernel
theorem dX9_truthAt_81 : decode cX9_truthAt 81 = .ok (.ldc 74, 2) := by decide +kernel
theorem dX9_truthAt_83 : decode cX9_truthAt 83 = .ok (.if_icmp .eq 9, 3) := by decide +kernel
theorem dX9_truthAt_86 : decode cX9_truthAt 86 = .ok (.iload_n 3, 1) := by decide +kernel
theorem dX9_truthAt_87 : decode cX9_truthAt 87 = .ok (.ldc 74, 2) := by decide +kernel
theorem dX9_truthAt_89 : decode cX9_truthAt 89 = .ok (.if_icmp .ne 7, 3) := by decide +kernel
theorem dX9_truthAt_92 : decode cX9_truthAt 92 = .ok (.iconst 2, 1) := by decide +kernel
theorem dX9_truthAt_93 : decode cX9_truthAt 93 = .ok (.goto 13, 3) := by decide +kernel
theorem dX9_truthAt_96 : decode cX9_truthAt 96 = .ok (.iload_n 2, 1) := by decide +kernel
theorem dX9_truthAt_97 : decode cX9_truthAt 97 = .ok (.iload_n 3, 1) := by decide +kernel
theorem dX9_truthAt_98 : decode cX9_truthAt 98 = .ok (.if_icmp .ge 7, 3) := by decide +kernel
theorem dX9_truthAt_101 : decode cX9_truthAt 101 = .ok (.iconst 1, 1) := by decide +kernel
theorem dX9_truthAt_102 : decode cX9_truthAt 102 = .ok (.goto 4, 3) := by decide +kernel
theorem dX9_truthAt_105 : decode cX9_truthAt 105 = .ok (.iconst 0, 1) := by decide +kernel
theorem dX9_truthAt_106 : decode cX9_truthAt 106 = .ok (.ireturn, 1) := by decide +kernel
theorem dX9_truthAt_107 : decode cX9_truthAt 107 = .ok (.iload_n 2, 1) := by decide +kernel
theorem dX9_truthAt_108 : decode cX9_truthAt 108 = .ok (.ldc 74, 2) := by decide +kernel
theorem dX9_truthAt_110 : decode cX9_truthAt 110 = .ok (.if_icmp .eq 9, 3) := by decide +kernel
theorem dX9_truthAt_113 : decode cX9_truthAt 113 = .ok (.iload_n 3, 1) := by decide +kernel
theorem dX9_truthAt_114 : decode cX9_truthAt 114 = .ok (.ldc 74, 2) := by decide +kernel
theorem dX9_truthAt_116 : decode cX9_truthAt 116 = .ok (.if_icmp .ne 7, 3) := by decide +kernel
theorem dX9_truthAt_119 : decode cX9_truthAt 119 = .ok (.iconst 2, 1) := by decide +kernel
theorem dX9_truthAt_120 : decode cX9_truthAt 120 = .ok (.goto 13, 3) := by decide +kernel
theorem dX9_truthAt_123 : decode cX9_truthAt 123 = .ok (.iload_n 2, 1) := by decide +kernel
theorem dX9_truthAt_124 : decode cX9_truthAt 124 = .ok (.iload_n 3, 1) := by decide +kernel
theorem dX9_truthAt_125 : decode cX9_truthAt 125 = .ok (.if_icmp .ne 7, 3) := by decide +kernel
theorem dX9_truthAt_128 : decode cX9_truthAt 128 = .ok (.iconst 1, 1) := by decide +kernel
theorem dX9_truthAt_129 : decode cX9_truthAt 129 = .ok (.goto 4, 3) := by decide +kernel
theorem dX9_truthAt_132 : decode cX9_truthAt 132 = .ok (.iconst 0, 1) := by decide +kernel
theorem dX9_truthAt_133 : decode cX9_truthAt 133 = .ok (.ireturn, 1) := by decide +kernel
theorem dX9_truthAt_134 : decode cX9_truthAt 134 = .ok (.iload_n 2, 1) := by decide +kernel
theorem dX9_truthAt_135 : decode cX9_truthAt 135 = .ok (.iload_n 3, 1) := by decide +kernel
theorem dX9_truthAt_136 : decode cX9_truthAt 136 = .ok (.invokestatic 148, 3) := by decide +kernel
theorem dX9_truthAt_139 : decode cX9_truthAt 139 = .ok (.ireturn, 1) := by decide +kernel
theorem dX9_truthAt_140 : decode cX9_truthAt 140 = .ok (.iload_n 2, 1) := by decide +kernel
theorem dX9_truthAt_141 : decode cX9_truthAt 141 = .ok (.iload_n 3, 1) := by decide +kernel
theorem dX9_truthAt_142 : decode cX9_truthAt 142 = .ok (.invokestatic 151, 3) := by decide +kernel
theorem dX9_truthAt_145 : decode cX9_truthAt 145 = .ok (.ireturn, 1) := by decide +kernel
theorem dX9_truthAt_146 : decode cX9_truthAt 146 = .ok (.iload_n 2, 1) := by decide +kernel
theorem dX9_truthAt_147 : decode cX9_truthAt 147 = .ok (.invokestatic 145, 3) := by decide +kernel
theorem dX9_truthAt_150 : decode cX9_truthAt 150 = .ok (.ireturn, 1) := by decide +kernel
theorem dX9_truthAt_151 : decode cX9_truthAt 151 = .ok (.aload_n 0, 1) := by decide +kernel
theorem dX9_truthAt_152 : decode cX9_truthAt 152 = .ok (.getfield 43, 3) := by decide +kernel
theorem dX9_truthAt_155 : decode cX9_truthAt 155 = .ok (.aload_n 0, 1) := by decide +kernel
theorem dX9_truthAt_156 : decode cX9_truthAt 156 = .ok (.getfield 22, 3) := by decide +kernel
theorem dX9_truthAt_159 : decode cX9_truthAt 159 = .ok (.iload_n 1, 1) := by decide +kernel
theorem dX9_truthAt_160 : decode cX9_truthAt 160 = .ok (.iconst 1, 1) := by decide +kernel
theorem dX9_truthAt_161 : decode cX9_truthAt 161 = .ok (.iadd, 1) := by decide +kernel
theorem dX9_truthAt_162 : decode cX9_truthAt 162 = .ok (.iaload, 1) := by decide +kernel
theorem dX9_truthAt_163 : decode cX9_truthAt 163 = .ok (.bipush 97, 2) := by decide +kernel
theorem dX9_truthAt_165 : decode cX9_truthAt 165 = .ok (.isub, 1) := by decide +kernel
theorem dX9_truthAt_166 : decode cX9_truthAt 166 = .ok (.iaload, 1) := by decide +kernel
theorem dX9_truthAt_167 : decode cX9_truthAt 167 = .ok (.sipush 1000, 3) := by decide +kernel
theorem dX9_truthAt_170 : decode cX9_truthAt 170 = .ok (.if_icmp .ne 7, 3) := by decide +kernel
theorem dX9_truthAt_173 : decode cX9_truthAt 173 = .ok (.iconst 1, 1) := by decide +kernel
theorem dX9_truthAt_174 : decode cX9_truthAt 174 = .ok (.goto 4, 3) := by decide +kernel
theorem dX9_truthAt_177 : decode cX9_truthAt 177 = .ok (.iconst 0, 1) := by decide +kernel
theorem dX9_truthAt_178 : decode cX9_truthAt 178 = .ok (.ireturn, 1) := by decide +kernel
theorem dX9_truthOfRow_0 : decode cX9_truthOfRow 0 = .ok (.iconst 0, 1) := by decide +kernel
theorem dX9_truthOfRow_1 : decode cX9_truthOfRow 1 = .ok (.istore_n 3, 1) := by decide +kernel
theorem dX9_truthOfRow_2 : decode cX9_truthOfRow 2 = .ok (.iload_n 3, 1) := by decide +kernel
theorem dX9_truthOfRow_3 : decode cX9_truthOfRow 3 = .ok (.iconst 4, 1) := by decide +kernel
theorem dX9_truthOfRow_4 : decode cX9_truthOfRow 4 = .ok (.if_icmp .ge 22, 3) := by decide +kernel
theorem dX9_truthOfRow_7 : decode cX9_truthOfRow 7 = .ok (.aload_n 0, 1) := by decide +kernel
theorem dX9_truthOfRow_8 : decode cX9_truthOfRow 8 = .ok (.getfield 43, 3) := by decide +kernel
theorem dX9_truthOfRow_11 : decode cX9_truthOfRow 11 = .ok (.iload_n 3, 1) := by decide +kernel
theorem dX9_truthOfRow_12 : decode cX9_truthOfRow 12 = .ok (.aload_n 0, 1) := by decide +kernel
theorem dX9_truthOfRow_13 : decode cX9_truthOfRow 13 = .ok (.iload_n 1, 1) := by decide +kernel
theorem dX9_truthOfRow_14 : decode cX9_truthOfRow 14 = .ok (.iload_n 2, 1) := by decide +kernel
theorem dX9_truthOfRow_15 : decode cX9_truthOfRow 15 = .ok (.iload_n 3, 1) := by decide +kernel
theorem dX9_truthOfRow_16 : decode cX9_truthOfRow 16 = .ok (.invokevirtual 87, 3) := by decide +kernel
theorem dX9_truthOfRow_19 : decode cX9_truthOfRow 19 = .ok (.iastore, 1) := by decide +kernel
theorem dX9_truthOfRow_20 : decode cX9_truthOfRow 20 = .ok (.iinc 3 1, 3) := by decide +kernel
theorem dX9_truthOfRow_23 : decode cX9_truthOfRow 23 = .ok (.goto (-21), 3) := by decide +kernel
theorem dX9_truthOfRow_26 : decode cX9_truthOfRow 26 = .ok (.aload_n 0, 1) := by decide +kernel
theorem dX9_truthOfRow_27 : decode cX9_truthOfRow 27 = .ok (.invokevirtual 154, 3) := by decide +kernel
theorem dX9_truthOfRow_30 : decode cX9_truthOfRow 30 = .ok (.aload_n 0, 1) := by decide +kernel
theorem dX9_truthOfRow_31 : decode cX9_truthOfRow 31 = .ok (.getfield 40, 3) := by decide +kernel
theorem dX9_truthOfRow_34 : decode cX9_truthOfRow 34 = .ok (.iconst 0, 1) := by decide +kernel
theorem dX9_truthOfRow_35 : decode cX9_truthOfRow 35 = .ok (.iaload, 1) := by decide +kernel
theorem dX9_truthOfRow_36 : decode cX9_truthOfRow 36 = .ok (.ireturn, 1) := by decide +kernel
theorem dX9_truth_0 : decode cX9_truth 0 = .ok (.aload_n 0, 1) := by decide +kernel
theorem dX9_truth_1 : decode cX9_truth 1 = .ok (.iload_n 1, 1) := by decide +kernel
theorem dX9_truth_2 : decode cX9_truth 2 = .ok (.iload_n 2, 1) := by decide +kernel
theorem dX9_truth_3 : decode cX9_truth 3 = .ok (.invokevirtual 83, 3) := by decide +kernel
theorem dX9_truth_6 : decode cX9_truth 6 = .ok (.ifCond .ne 5, 3) := by decide +kernel
theorem dX9_truth_9 : decode cX9_truth 9 = .ok (.iconst (-1), 1) := by decide +kernel
theorem dX9_truth_10 : decode cX9_truth 10 = .ok (.ireturn, 1) := by decide +kernel
theorem dX9_truth_11 : decode cX9_truth 11 = .ok (.aload_n 0, 1) := by decide +kernel
theorem dX9_truth_12 : decode cX9_truth 12 = .ok (.invokevirtual 116, 3) := by decide +kernel
theorem dX9_truth_15 : decode cX9_truth 15 = .ok (.ldc 74, 2) := by decide +kernel
theorem dX9_truth_17 : decode cX9_truth 17 = .ok (.if_icmp .eq 8, 3) := by decide +kernel
theorem dX9_truth_20 : decode cX9_truth 20 = .ok (.bipush (-5), 2) := by decide +kernel
theorem dX9_truth_22 : decode cX9_truth 22 = .ok (.goto 9, 3) := by decide +kernel
theorem dX9_truth_25 : decode cX9_truth 25 = .ok (.aload_n 0, 1) := by decide +kernel
theorem dX9_truth_26 : decode cX9_truth 26 = .ok (.iload_n 1, 1) := by decide +kernel
theorem dX9_truth_27 : decode cX9_truth 27 = .ok (.iload_n 2, 1) := by decide +kernel
theorem dX9_truth_28 : decode cX9_truth 28 = .ok (.invokevirtual 157, 3) := by decide +kernel
theorem dX9_truth_31 : decode cX9_truth 31 = .ok (.ireturn, 1) := by decide +kernel
theorem dX9_layBlock_0 : decode cX9_layBlock 0 = .ok (.aload_n 0, 1) := by decide +kernel
theorem dX9_layBlock_1 : decode cX9_layBlock 1 = .ok (.getfield 102, 3) := by decide +kernel
theorem dX9_layBlock_4 : decode cX9_layBlock 4 = .ok (.iconst 1, 1) := by decide +kernel
theorem dX9_layBlock_5 : decode cX9_layBlock 5 = .ok (.isub, 1) := by decide +kernel
theorem dX9_layBlock_6 : decode cX9_layBlock 6 = .ok (.istore_n 2, 1) := by decide +kernel
theorem dX9_layBlock_7 : decode cX9_layBlock 7 = .ok (.iload_n 2, 1) := by decide +kernel
theorem dX9_layBlock_8 : decode cX9_layBlock 8 = .ok (.ifCond .lt 60, 3) := by decide +kernel
theorem dX9_layBlock_11 : decode cX9_layBlock 11 = .ok (.aload_n 0, 1) := by decide +kernel
theorem dX9_layBlock_12 : decode cX9_layBlock 12 = .ok (.getfield 25, 3) := by decide +kernel
theorem dX9_layBlock_15 : decode cX9_layBlock 15 = .ok (.iload_n 2, 1) := by decide +kernel
theorem dX9_layBlock_16 : decode cX9_layBlock 16 = .ok (.iaload, 1) := by decide +kernel
theorem dX9_layBlock_17 : decode cX9_layBlock 17 = .ok (.ldc 74, 2) := by decide +kernel
theorem dX9_layBlock_19 : decode cX9_layBlock 19 = .ok (.if_icmp .eq 20, 3) := by decide +kernel
theorem dX9_layBlock_22 : decode cX9_layBlock 22 = .ok (.aload_n 0, 1) := by decide +kernel
theorem dX9_layBlock_23 : decode cX9_layBlock 23 = .ok (.iload_n 2, 1) := by decide +kernel
theorem dX9_layBlock_24 : decode cX9_layBlock 24 = .ok (.invokevirtual 126, 3) := by decide +kernel
theorem dX9_layBlock_27 : decode cX9_layBlock 27 = .ok (.ifCond .eq 12, 3) := by decide +kernel
theorem dX9_layBlock_30 : decode cX9_layBlock 30 = .ok (.aload_n 0, 1) := by decide +kernel
theorem dX9_layBlock_31 : decode cX9_layBlock 31 = .ok (.iload_n 1, 1) := by decide +kernel
theorem dX9_layBlock_32 : decode cX9_layBlock 32 = .ok (.iload_n 2, 1) := by decide +kernel
theorem dX9_layBlock_33 : decode cX9_layBlock 33 = .ok (.invokevirtual 160, 3) := by decide +kernel
theorem dX9_layBlock_36 : decode cX9_layBlock 36 = .ok (.goto 26, 3) := by decide +kernel
theorem dX9_layBlock_39 : decode cX9_layBlock 39 = .ok (.aload_n 0, 1) := by decide +kernel
theorem dX9_layBlock_40 : decode cX9_layBlock 40 = .ok (.getfield 25, 3) := by decide +kernel
theorem dX9_layBlock_43 : decode cX9_layBlock 43 = .ok (.iload_n 2, 1) := by decide +kernel
theorem dX9_layBlock_44 : decode cX9_layBlock 44 = .ok (.iaload, 1) := by decide +kernel
theorem dX9_layBlock_45 : decode cX9_layBlock 45 = .ok (.ldc 74, 2) := by decide +kernel
theorem dX9_layBlock_47 : decode cX9_layBlock 47 = .ok (.if_icmp .eq 15, 3) := by decide +kernel
theorem dX9_layBlock_50 : decode cX9_layBlock 50 = .ok (.aload_n 0, 1) := by decide +kernel
theorem dX9_layBlock_51 : decode cX9_layBlock 51 = .ok (.getfield 46, 3) := by decide +kernel
theorem dX9_layBlock_54 : decode cX9_layBlock 54 = .ok (.iload_n 2, 1) := by decide +kernel
theorem dX9_layBlock_55 : decode cX9_layBlock 55 = .ok (.aload_n 0, 1) := by decide +kernel
theorem dX9_layBlock_56 : decode cX9_layBlock 56 = .ok (.iload_n 1, 1) := by decide +kernel
theorem dX9_layBlock_57 : decode cX9_layBlock 57 = .ok (.iload_n 2, 1) := by decide +kernel
theorem dX9_layBlock_58 : decode cX9_layBlock 58 = .ok (.invokevirtual 163, 3) := by decide +kernel
theorem dX9_layBlock_61 : decode cX9_layBlock 61 = .ok (.iastore, 1) := by decide +kernel
theorem dX9_layBlock_62 : decode cX9_layBlock 62 = .ok (.iinc 2 (-1), 3) := by decide +kernel
theorem dX9_layBlock_65 : decode cX9_layBlock 65 = .ok (.goto (-58), 3) := by decide +kernel
theorem dX9_layBlock_68 : decode cX9_layBlock 68 = .ok (.return_, 1) := by decide +kernel
theorem dX9_layRange_0 : decode cX9_layRange 0 = .ok (.aload_n 0, 1) := by decide +kernel
theorem dX9_layRange_1 : decode cX9_layRange 1 = .ok (.getfield 25, 3) := by decide +kernel
theorem dX9_layRange_4 : decode cX9_layRange 4 = .ok (.iload_n 2, 1) := by decide +kernel
theorem dX9_layRange_5 : decode cX9_layRange 5 = .ok (.iaload, 1) := by decide +kernel
theorem dX9_layRange_6 : decode cX9_layRange 6 = .ok (.invokestatic 113, 3) := by decide +kernel
theorem dX9_layRange_9 : decode cX9_layRange 9 = .ok (.istore_n 3, 1) := by decide +kernel
theorem dX9_layRange_10 : decode cX9_layRange 10 = .ok (.iload_n 3, 1) := by decide +kernel
theorem dX9_layRange_11 : decode cX9_layRange 11 = .ok (.ifCond .ne 162, 3) := by decide +kernel
theorem dX9_layRange_14 : decode cX9_layRange 14 = .ok (.aload_n 0, 1) := by decide +kernel
theorem dX9_layRange_15 : decode cX9_layRange 15 = .ok (.getfield 25, 3) := by decide +kernel
theorem dX9_layRange_18 : decode cX9_layRange 18 = .ok (.iload_n 2, 1) := by decide +kernel
theorem dX9_layRange_19 : decode cX9_layRange 19 = .ok (.iaload, 1) := by decide +kernel
theorem dX9_layRange_20 : decode cX9_layRange 20 = .ok (.iconst 1, 1) := by decide +kernel
theorem dX9_layRange_21 : decode cX9_layRange 21 = .ok (.if_icmp .ne 99, 3) := by decide +kernel
theorem dX9_layRange_24 : decode cX9_layRange 24 = .ok (.bipush 12, 2) := by decide +kernel
theorem dX9_layRange_26 : decode cX9_layRange 26 = .ok (.iconst 4, 1) := by decide +kernel
theorem dX9_layRange_27 : decode cX9_layRange 27 = .ok (.iload_n 1, 1) := by decide +kernel
theorem dX9_layRange_28 : decode cX9_layRange 28 = .ok (.imul, 1) := by decide +kernel
theorem dX9_layRange_29 : decode cX9_layRange 29 = .ok (.aload_n 0, 1) := by decide +kernel
theorem dX9_layRange_30 : decode cX9_layRange 30 = .ok (.getfield 22, 3) := by decide +kernel
theorem dX9_layRange_33 : decode cX9_layRange 33 = .ok (.iload_n 2, 1) := by decide +kernel
theorem dX9_layRange_34 : decode cX9_layRange 34 = .ok (.iaload, 1) := by decide +kernel
theorem dX9_layRange_35 : decode cX9_layRange 35 = .ok (.iadd, 1) := by decide +kernel
theorem dX9_layRange_36 : decode cX9_layRange 36 = .ok (.bipush 97, 2) := by decide +kernel
theorem dX9_layRange_38 : decode cX9_layRange 38 = .ok (.isub, 1) := by decide +kernel
theorem dX9_layRange_39 : decode cX9_layRange 39 = .ok (.imul, 1) := by decide +kernel
theorem dX9_layRange_40 : decode cX9_layRange 40 = .ok (.istore 4, 2) := by decide +kernel
theorem dX9_layRange_42 : decode cX9_layRange 42 = .ok (.aload_n 0, 1) := by decide +kernel
theorem dX9_layRange_43 : decode cX9_layRange 43 = .ok (.getfield 46, 3) := by decide +kernel
theorem dX9_layRange_46 : decode cX9_layRange 46 = .ok (.iload_n 2, 1) := by decide +kernel
theorem dX9_layRange_47 : decode cX9_layRange 47 = .ok (.aload_n 0, 1) := by decide +kernel
theorem dX9_layRange_48 : decode cX9_layRange 48 = .ok (.getfield 16, 3) := by decide +kernel
theorem dX9_layRange_51 : decode cX9_layRange 51 = .ok (.iload 4, 2) := by decide +kernel
theorem dX9_layRange_53 : decode cX9_layRange 53 = .ok (.iconst 2, 1) := by decide +kernel
theorem dX9_layRange_54 : decode cX9_layRange 54 = .ok (.iadd, 1) := by decide +kernel
theorem dX9_layRange_55 : decode cX9_layRange 55 = .ok (.iaload, 1) := by decide +kernel
theorem dX9_layRange_56 : decode cX9_layRange 56 = .ok (.aload_n 0, 1) := by decide +kernel
theorem dX9_layRange_57 : decode cX9_layRange 57 = .ok (.getfield 13, 3) := by decide +kernel
theorem dX9_layRange_60 : decode cX9_layRange 60 = .ok (.iload_n 1, 1) := by decide +kernel
theorem dX9_layRange_61 : decode cX9_layRange 61 = .ok (.iaload, 1) := by decide +kernel
theorem dX9_layRange_62 : decode cX9_layRange 62 = .ok (.if_icmp .ge 7, 3) := by decide +kernel
theorem dX9_layRange_65 : decode cX9_layRange 65 = .ok (.iconst 1, 1) := by decide +kernel
theorem dX9_layRange_66 : decode cX9_layRange 66 = .ok (.goto 4, 3) := by decide +kernel
theorem dX9_layRange_69 : decode cX9_layRange 69 = .ok (.iconst 0, 1) := by decide +kernel
theorem dX9_layRange_70 : decode cX9_layRange 70 = .ok (.aload_n 0, 1) := by decide +kernel
theorem dX9_layRange_71 : decode cX9_layRange 71 = .ok (.getfield 16, 3) := by decide +kernel
theorem dX9_layRange_74 : decode cX9_layRange 74 = .ok (.iload 4, 2) := by decide +kernel
theorem dX9_layRange_76 : decode cX9_layRange 76 = .ok (.iconst 2, 1) := by decide +kernel
theorem dX9_layRange_77 : decode cX9_layRange 77 = .ok (.iadd, 1) := by decide +kernel
theorem dX9_layRange_78 : decode cX9_layRange 78 = .ok (.iaload, 1) := by decide +kernel
theorem dX9_layRange_79 : decode cX9_layRange 79 = .ok (.ifCond .le 7, 3) := by decide +kernel
theorem dX9_layRange_82 : decode cX9_layRange 82 = .ok (.iconst 2, 1) := by decide +kernel
theorem dX9_layRange_83 : decode cX9_layRange 83 = .ok (.goto 4, 3) := by decide +kernel
theorem dX9_layRange_86 : decode cX9_layRange 86 = .ok (.iconst 0, 1) := by decide +kernel
theorem dX9_layRange_87 : decode cX9_layRange 87 = .ok (.iadd, 1) := by decide +kernel
theorem dX9_layRange_88 : decode cX9_layRange 88 = .ok (.iastore, 1) := by decide +kernel
theorem dX9_layRange_89 : decode cX9_layRange 89 = .ok (.aload_n 0, 1) := by decide +kernel
theorem dX9_layRange_90 : decode cX9_layRange 90 = .ok (.getfield 49, 3) := by decide +kernel
theorem dX9_layRange_93 : decode cX9_layRange 93 = .ok (.iload_n 2, 1) := by decide +kernel
theorem dX9_layRange_94 : decode cX9_layRange 94 = .ok (.aload_n 0, 1) := by decide +kernel
theorem dX9_layRange_95 : decode cX9_layRange 95 = .ok (.getfield 16, 3) := by decide +kernel
theorem dX9_layRange_98 : decode cX9_layRange 98 = .ok (.iload 4, 2) := by decide +kernel
theorem dX9_layRange_100 : decode cX9_layRange 100 = .ok (.iaload, 1) := by decide +kernel
theorem dX9_layRange_101 : decode cX9_layRange 101 = .ok (.iastore, 1) := by decide +kernel
theorem dX9_layRange_102 : decode cX9_layRange 102 = .ok (.aload_n 0, 1) := by decide +kernel
theorem dX9_layRange_103 : decode cX9_layRange 103 = .ok (.getfield 52, 3) := by decide +kernel
theorem dX9_layRange_106 : decode cX9_layRange 106 = .ok (.iload_n 2, 1) := by decide +kernel
theorem dX9_layRange_107 : decode cX9_layRange 107 = .ok (.aload_n 0, 1) := by decide +kernel
theorem dX9_layRange_108 : decode cX9_layRange 108 = .ok (.getfield 16, 3) := by decide +kernel
theorem dX9_layRange_111 : decode cX9_layRange 111 = .ok (.iload 4, 2) := by decide +kernel
theorem dX9_layRange_113 : decode cX9_layRange 113 = .ok (.iconst 1, 1) := by decide +kernel
theorem dX9_layRange_114 : decode cX9_layRange 114 = .ok (.iadd, 1) := by decide +kernel
theorem dX9_layRange_115 : decode cX9_layRange 115 = .ok (.iaload, 1) := by decide +kernel
theorem dX9_layRange_116 : decode cX9_layRange 116 = .ok (.iastore, 1) := by decide +kernel
theorem dX9_layRange_117 : decode cX9_layRange 117 = .ok (.goto 55, 3) := by decide +kernel
theorem dX9_layRange_120 : decode cX9_layRange 120 = .ok (.aload_n 0, 1) := by decide +kernel
theorem dX9_layRange_121 : decode cX9_layRange 121 = .ok (.getfield 46, 3) := by decide +kernel
theorem dX9_layRange_124 : decode cX9_layRange 124 = .ok (.iload_n 2, 1) := by decide +kernel
theorem dX9_layRange_125 : decode cX9_layRange 125 = .ok (.iconst 1, 1) := by decide +kernel
theorem dX9_layRange_126 : decode cX9_layRange 126 = .ok (.iastore, 1) := by decide +kernel
theorem dX9_layRange_127 : decode cX9_layRange 127 = .ok (.aload_n 0, 1) := by decide +kernel
theorem dX9_layRange_128 : decode cX9_layRange 128 = .ok (.getfield 49, 3) := by decide +kernel
theorem dX9_layRange_131 : decode cX9_layRange 131 = .ok (.iload_n 2, 1) := by decide +kernel
theorem dX9_layRange_132 : decode cX9_layRange 132 = .ok (.aload_n 0, 1) := by decide +kernel
theorem dX9_layRange_133 : decode cX9_layRange 133 = .ok (.getfield 25, 3) := by decide +kernel
theorem dX9_layRange_136 : decode cX9_layRange 136 = .ok (.iload_n 2, 1) := by decide +kernel
theorem dX9_layRange_137 : decode cX9_layRange 137 = .ok (.iaload, 1) := by decide +kernel
theorem dX9_layRange_138 : decode cX9_layRange 138 = .ok (.iconst 3, 1) := by decide +kernel
theorem dX9_layRange_139 : decode cX9_layRange 139 = .ok (.if_icmp .ne 11, 3) := by decide +kernel
theorem dX9_layRange_142 : decode cX9_layRange 142 = .ok (.aload_n 0, 1) := by decide +kernel
theorem dX9_layRange_143 : decode cX9_layRange 143 = .ok (.iload_n 2, 1) := by decide +kernel
theorem dX9_layRange_144 : decode cX9_layRange 144 = .ok (.invokevirtual 135, 3) := by decide +kernel
theorem dX9_layRange_147 : decode cX9_layRange 147 = .ok (.goto 12, 3) := by decide +kernel
theorem dX9_layRange_150 : decode cX9_layRange 150 = .ok (.aload_n 0, 1) := by decide +kernel
theorem dX9_layRange_151 : decode cX9_layRange 151 = .ok (.getfield 22, 3) := by decide +kernel
theorem dX9_layRange_154 : decode cX9_layRange 154 = .ok (.iload_n 2, 1) := by decide +kernel
theorem dX9_layRange_155 : decode cX9_layRange 155 = .ok (.iaload, 1) := by decide +kernel
theorem dX9_layRange_156 : decode cX9_layRange 156 = .ok (.bipush 48, 2) := by decide +kernel
theorem dX9_layRange_158 : decode cX9_layRange 158 = .ok (.isub, 1) := by decide +kernel
theorem dX9_layRange_159 : decode cX9_layRange 159 = .ok (.iastore, 1) := by decide +kernel
theorem dX9_layRange_160 : decode cX9_layRange 160 = .ok (.aload_n 0, 1) := by decide +kernel
theorem dX9_layRange_161 : decode cX9_layRange 161 = .ok (.getfield 52, 3) := by decide +kernel
theorem dX9_layRange_164 : decode cX9_layRange 164 = .ok (.iload_n 2, 1) := by decide +kernel
theorem dX9_layRange_165 : decode cX9_layRange 165 = .ok (.aload_n 0, 1) := by decide +kernel
theorem dX9_layRange_166 : decode cX9_layRange 166 = .ok (.getfield 49, 3) := by decide +kernel
theorem dX9_layRange_169 : decode cX9_layRange 169 = .ok (.iload_n 2, 1) := by decide +kernel
theorem dX9_layRange_170 : decode cX9_layRange 170 = .ok (.iaload, 1) := by decide +kernel
theorem dX9_layRange_171 : decode cX9_layRange 171 = .ok (.iastore, 1) := by decide +kernel
theorem dX9_layRange_172 : decode cX9_layRange 172 = .ok (.return_, 1) := by decide +kernel
theorem dX9_layRange_173 : decode cX9_layRange 173 = .ok (.aload_n 0, 1) := by decide +kernel
theorem dX9_layRange_174 : decode cX9_layRange 174 = .ok (.getfield 28, 3) := by decide +kernel
theorem dX9_layRange_177 : decode cX9_layRange 177 = .ok (.iload_n 2, 1) := by decide +kernel
theorem dX9_layRange_178 : decode cX9_layRange 178 = .ok (.iaload, 1) := by decide +kernel
theorem dX9_layRange_179 : decode cX9_layRange 179 = .ok (.istore 4, 2) := by decide +kernel
theorem dX9_layRange_181 : decode cX9_layRange 181 = .ok (.iload_n 3, 1) := by decide +kernel
theorem dX9_layRange_182 : decode cX9_layRange 182 = .ok (.iconst 1, 1) := by decide +kernel
theorem dX9_layRange_183 : decode cX9_layRange 183 = .ok (.if_icmp .le 12, 3) := by decide +kernel
theorem dX9_layRange_186 : decode cX9_layRange 186 = .ok (.aload_n 0, 1) := by decide +kernel
theorem dX9_layRange_187 : decode cX9_layRange 187 = .ok (.getfield 31, 3) := by decide +kernel
theorem dX9_layRange_190 : decode cX9_layRange 190 = .ok (.iload_n 2, 1) := by decide +kernel
theorem dX9_layRange_191 : decode cX9_layRange 191 = .ok (.iaload, 1) := by decide +kernel
theorem dX9_layRange_192 : decode cX9_layRange 192 = .ok (.goto 5, 3) := by decide +kernel
theorem dX9_layRange_195 : decode cX9_layRange 195 = .ok (.iload 4, 2) := by decide +kernel
theorem dX9_layRange_197 : decode cX9_layRange 197 = .ok (.istore 5, 2) := by decide +kernel
theorem dX9_layRange_199 : decode cX9_layRange 199 = .ok (.aload_n 0, 1) := by decide +kernel
theorem dX9_layRange_200 : decode cX9_layRange 200 = .ok (.getfield 46, 3) := by decide +kernel
theorem dX9_layRange_203 : decode cX9_layRange 203 = .ok (.iload_n 2, 1) := by decide +kernel
theorem dX9_layRange_204 : decode cX9_layRange 204 = .ok (.aload_n 0, 1) := by decide +kernel
theorem dX9_layRange_205 : decode cX9_layRange 205 = .ok (.getfield 46, 3) := by decide +kernel
theorem dX9_layRange_208 : decode cX9_layRange 208 = .ok (.iload 4, 2) := by decide +kernel
theorem dX9_layRange_210 : decode cX9_layRange 210 = .ok (.iaload, 1) := by decide +kernel
theorem dX9_layRange_211 : decode cX9_layRange 211 = .ok (.aload_n 0, 1) := by decide +kernel
theorem dX9_layRange_212 : decode cX9_layRange 212 = .ok (.getfield 46, 3) := by decide +kernel
theorem dX9_layRange_215 : decode cX9_layRange 215 = .ok (.iload 5, 2) := by decide +kernel
theorem dX9_layRange_217 : decode cX9_layRange 217 = .ok (.iaload, 1) := by decide +kernel
theorem dX9_layRange_218 : decode cX9_layRange 218 = .ok (.iand, 1) := by decide +kernel
theorem dX9_layRange_219 : decode cX9_layRange 219 = .ok (.iconst 1, 1) := by decide +kernel
theorem dX9_layRange_220 : decode cX9_layRange 220 = .ok (.iand, 1) := by decide +kernel
theorem dX9_layRange_221 : decode cX9_layRange 221 = .ok (.aload_n 0, 1) := by decide +kernel
theorem dX9_layRange_222 : decode cX9_layRange 222 = .ok (.getfield 46, 3) := by decide +kernel
theorem dX9_layRange_225 : decode cX9_layRange 225 = .ok (.iload 4, 2) := by decide +kernel
theorem dX9_layRange_227 : decode cX9_layRange 227 = .ok (.iaload, 1) := by decide +kernel
theorem dX9_layRange_228 : decode cX9_layRange 228 = .ok (.aload_n 0, 1) := by decide +kernel
theorem dX9_layRange_229 : decode cX9_layRange 229 = .ok (.getfield 46, 3) := by decide +kernel
theorem dX9_layRange_232 : decode cX9_layRange 232 = .ok (.iload 5, 2) := by decide +kernel
theorem dX9_layRange_234 : decode cX9_layRange 234 = .ok (.iaload, 1) := by decide +kernel
theorem dX9_layRange_235 : decode cX9_layRange 235 = .ok (.ior, 1) := by decide +kernel
theorem dX9_layRange_236 : decode cX9_layRange 236 = .ok (.iconst 2, 1) := by decide +kernel
theorem dX9_layRange_237 : decode cX9_layRange 237 = .ok (.iand, 1) := by decide +kernel
theorem dX9_layRange_238 : decode cX9_layRange 238 = .ok (.iadd, 1) := by decide +kernel
theorem dX9_layRange_239 : decode cX9_layRange 239 = .ok (.iastore, 1) := by decide +kernel
theorem dX9_layRange_240 : decode cX9_layRange 240 = .ok (.aload_n 0, 1) := by decide +kernel
theorem dX9_layRange_241 : decode cX9_layRange 241 = .ok (.getfield 46, 3) := by decide +kernel
theorem dX9_layRange_244 : decode cX9_layRange 244 = .ok (.iload_n 2, 1) := by decide +kernel
theorem dX9_layRange_245 : decode cX9_layRange 245 = .ok (.iaload, 1) := by decide +kernel
theorem dX9_layRange_246 : decode cX9_layRange 246 = .ok (.iconst 1, 1) := by decide +kernel
theorem dX9_layRange_247 : decode cX9_layRange 247 = .ok (.iand, 1) := by decide +kernel
theorem dX9_layRange_248 : decode cX9_layRange 248 = .ok (.ifCond .ne 4, 3) := by decide +kernel
theorem dX9_layRange_251 : decode cX9_layRange 251 = .ok (.return_, 1) := by decide +kernel
theorem dX9_layRange_252 : decode cX9_layRange 252 = .ok (.aload_n 0, 1) := by decide +kernel
theorem dX9_layRange_253 : decode cX9_layRange 253 = .ok (.getfield 49, 3) := by decide +kernel
theorem dX9_layRange_256 : decode cX9_layRange 256 = .ok (.iload 4, 2) := by decide +kernel
theorem dX9_layRange_258 : decode cX9_layRange 258 = .ok (.iaload, 1) := by decide +kernel
theorem dX9_layRange_259 : decode cX9_layRange 259 = .ok (.istore 6, 2) := by decide +kernel
theorem dX9_layRange_261 : decode cX9_layRange 261 = .ok (.aload_n 0, 1) := by decide +kernel
theorem dX9_layRange_262 : decode cX9_layRange 262 = .ok (.getfield 52, 3) := by decide +kernel
theorem dX9_layRange_265 : decode cX9_layRange 265 = .ok (.iload 4, 2) := by decide +kernel
theorem dX9_layRange_267 : decode cX9_layRange 267 = .ok (.iaload, 1) := by decide +kernel
theorem dX9_layRange_268 : decode cX9_layRange 268 = .ok (.istore 7, 2) := by decide +kernel
theorem dX9_layRange_270 : decode cX9_layRange 270 = .ok (.aload_n 0, 1) := by decide +kernel
theorem dX9_layRange_271 : decode cX9_layRange 271 = .ok (.getfield 49, 3) := by decide +kernel
theorem dX9_layRange_274 : decode cX9_layRange 274 = .ok (.iload 5, 2) := by decide +kernel
theorem dX9_layRange_276 : decode cX9_layRange 276 = .ok (.iaload, 1) := by decide +kernel
theorem dX9_layRange_277 : decode cX9_layRange 277 = .ok (.i2l, 1) := by decide +kernel
theorem dX9_layRange_278 : decode cX9_layRange 278 = .ok (.lstore 8, 2) := by decide +kernel
theorem dX9_layRange_280 : decode cX9_layRange 280 = .ok (.aload_n 0, 1) := by decide +kernel
theorem dX9_layRange_281 : decode cX9_layRange 281 = .ok (.getfield 52, 3) := by decide +kernel
theorem dX9_layRange_284 : decode cX9_layRange 284 = .ok (.iload 5, 2) := by decide +kernel
theorem dX9_layRange_286 : decode cX9_layRange 286 = .ok (.iaload, 1) := by decide +kernel
theorem dX9_layRange_287 : decode cX9_layRange 287 = .ok (.i2l, 1) := by decide +kernel
theorem dX9_layRange_288 : decode cX9_layRange 288 = .ok (.lstore 10, 2) := by decide +kernel
theorem dX9_layRange_290 : decode cX9_layRange 290 = .ok (.aload_n 0, 1) := by decide +kernel
theorem dX9_layRange_291 : decode cX9_layRange 291 = .ok (.getfield 25, 3) := by decide +kernel
theorem dX9_layRange_294 : decode cX9_layRange 294 = .ok (.iload_n 2, 1) := by decide +kernel
theorem dX9_layRange_295 : decode cX9_layRange 295 = .ok (.iaload, 1) := by decide +kernel
theorem dX9_layRange_296 : decode cX9_layRange 296 = .ok (.tableswitch 409 4 8 #[36, 57, 90, 123, 274], 36) := by decide +kernel
theorem dX9_layRange_332 : decode cX9_layRange 332 = .ok (.aload_n 0, 1) := by decide +kernel
theorem dX9_layRange_333 : decode cX9_layRange 333 = .ok (.getfield 49, 3) := by decide +kernel
theorem dX9_layRange_336 : decode cX9_layRange 336 = .ok (.iload_n 2, 1) := by decide +kernel
theorem dX9_layRange_337 : decode cX9_layRange 337 = .ok (.iload 7, 2) := by decide +kernel
theorem dX9_layRange_339 : decode cX9_layRange 339 = .ok (.ineg, 1) := by decide +kernel
theorem dX9_layRange_340 : decode cX9_layRange 340 = .ok (.iastore, 1) := by decide +kernel
theorem dX9_layRange_341 : decode cX9_layRange 341 = .ok (.aload_n 0, 1) := by decide +kernel
theorem dX9_layRange_342 : decode cX9_layRange 342 = .ok (.getfield 52, 3) := by decide +kernel
theorem dX9_layRange_345 : decode cX9_layRange 345 = .ok (.iload_n 2, 1) := by decide +kernel
theorem dX9_layRange_346 : decode cX9_layRange 346 = .ok (.iload 6, 2) := by decide +kernel
theorem dX9_layRange_348 : decode cX9_layRange 348 = .ok (.ineg, 1) := by decide +kernel
theorem dX9_layRange_349 : decode cX9_layRange 349 = .ok (.iastore, 1) := by decide +kernel
theorem dX9_layRange_350 : decode cX9_layRange 350 = .ok (.goto 428, 3) := by decide +kernel
theorem dX9_layRange_353 : decode cX9_layRange 353 = .ok (.aload_n 0, 1) := by decide +kernel
theorem dX9_layRange_354 : decode cX9_layRange 354 = .ok (.getfield 49, 3) := by decide +kernel
theorem dX9_layRange_357 : decode cX9_layRange 357 = .ok (.iload_n 2, 1) := by decide +kernel
theorem dX9_layRange_358 : decode cX9_layRange 358 = .ok (.iload 6, 2) := by decide +kernel
theorem dX9_layRange_360 : decode cX9_layRange 360 = .ok (.i2l, 1) := by decide +kernel
theorem dX9_layRange_361 : decode cX9_layRange 361 = .ok (.lload 8, 2) := by decide +kernel
theorem dX9_layRange_363 : decode cX9_layRange 363 = .ok (.ladd, 1) := by decide +kernel
theorem dX9_layRange_364 : decode cX9_layRange 364 = .ok (.invokestatic 138, 3) := by decide +kernel
theorem dX9_layRange_367 : decode cX9_layRange 367 = .ok (.iastore, 1) := by decide +kernel
theorem dX9_layRange_368 : decode cX9_layRange 368 = .ok (.aload_n 0, 1) := by decide +kernel
theorem dX9_layRange_369 : decode cX9_layRange 369 = .ok (.getfield 52, 3) := by decide +kernel
theorem dX9_layRange_372 : decode cX9_layRange 372 = .ok (.iload_n 2, 1) := by decide +kernel
theorem dX9_layRange_373 : decode cX9_layRange 373 = .ok (.iload 7, 2) := by decide +kernel
theorem dX9_layRange_375 : decode cX9_layRange 375 = .ok (.i2l, 1) := by decide +kernel
theorem dX9_layRange_376 : decode cX9_layRange 376 = .ok (.lload 10, 2) := by decide +kernel
theorem dX9_layRange_378 : decode cX9_layRange 378 = .ok (.ladd, 1) := by decide +kernel
theorem dX9_layRange_379 : decode cX9_layRange 379 = .ok (.invokestatic 138, 3) := by decide +kernel
theorem dX9_layRange_382 : decode cX9_layRange 382 = .ok (.iastore, 1) := by decide +kernel
theorem dX9_layRange_383 : decode cX9_layRange 383 = .ok (.goto 395, 3) := by decide +kernel
theorem dX9_layRange_386 : decode cX9_layRange 386 = .ok (.aload_n 0, 1) := by decide +kernel
theorem dX9_layRange_387 : decode cX9_layRange 387 = .ok (.getfield 49, 3) := by decide +kernel
theorem dX9_layRange_390 : decode cX9_layRange 390 = .ok (.iload_n 2, 1) := by decide +kernel
theorem dX9_layRange_391 : decode cX9_layRange 391 = .ok (.iload 6, 2) := by decide +kernel
theorem dX9_layRange_393 : decode cX9_layRange 393 = .ok (.i2l, 1) := by decide +kernel
theorem dX9_layRange_394 : decode cX9_layRange 394 = .ok (.lload 10, 2) := by decide +kernel
theorem dX9_layRange_396 : decode cX9_layRange 396 = .ok (.lsub, 1) := by decide +kernel
theorem dX9_layRange_397 : decode cX9_layRange 397 = .ok (.invokestatic 138, 3) := by decide +kernel
theorem dX9_layRange_400 : decode cX9_layRange 400 = .ok (.iastore, 1) := by decide +kernel
theorem dX9_layRange_401 : decode cX9_layRange 401 = .ok (.aload_n 0, 1) := by decide +kernel
theorem dX9_layRange_402 : decode cX9_layRange 402 = .ok (.getfield 52, 3) := by decide +kernel
theorem dX9_layRange_405 : decode cX9_layRange 405 = .ok (.iload_n 2, 1) := by decide +kernel
theorem dX9_layRange_406 : decode cX9_layRange 406 = .ok (.iload 7, 2) := by decide +kernel
theorem dX9_layRange_408 : decode cX9_layRange 408 = .ok (.i2l, 1) := by decide +kernel
theorem dX9_layRange_409 : decode cX9_layRange 409 = .ok (.lload 8, 2) := by decide +kernel
theorem dX9_layRange_411 : decode cX9_layRange 411 = .ok (.lsub, 1) := by decide +kernel
theorem dX9_layRange_412 : decode cX9_layRange 412 = .ok (.invokestatic 138, 3) := by decide +kernel
theorem dX9_layRange_415 : decode cX9_layRange 415 = .ok (.iastore, 1) := by decide +kernel
theorem dX9_layRange_416 : decode cX9_layRange 416 = .ok (.goto 362, 3) := by decide +kernel
theorem dX9_layRange_419 : decode cX9_layRange 419 = .ok (.iload 6, 2) := by decide +kernel
theorem dX9_layRange_421 : decode cX9_layRange 421 = .ok (.i2l, 1) := by decide +kernel
theorem dX9_layRange_422 : decode cX9_layRange 422 = .ok (.lload 8, 2) := by decide +kernel
theorem dX9_layRange_424 : decode cX9_layRange 424 = .ok (.lmul, 1) := by decide +kernel
theorem dX9_layRange_425 : decode cX9_layRange 425 = .ok (.invokestatic 138, 3) := by decide +kernel
theorem dX9_layRange_428 : decode cX9_layRange 428 = .ok (.istore 12, 2) := by decide +kernel
theorem dX9_layRange_430 : decode cX9_layRange 430 = .ok (.iload 6, 2) := by decide +kernel
theorem dX9_layRange_432 : decode cX9_layRange 432 = .ok (.i2l, 1) := by decide +kernel
theorem dX9_layRange_433 : decode cX9_layRange 433 = .ok (.lload 10, 2) := by decide +kernel
theorem dX9_layRange_435 : decode cX9_layRange 435 = .ok (.lmul, 1) := by decide +kernel
theorem dX9_layRange_436 : decode cX9_layRange 436 = .ok (.invokestatic 138, 3) := by decide +kernel
theorem dX9_layRange_439 : decode cX9_layRange 439 = .ok (.istore 13, 2) := by decide +kernel
theorem dX9_layRange_441 : decode cX9_layRange 441 = .ok (.iload 7, 2) := by decide +kernel
theorem dX9_layRange_443 : decode cX9_layRange 443 = .ok (.i2l, 1) := by decide +kernel
theorem dX9_layRange_444 : decode cX9_layRange 444 = .ok (.lload 8, 2) := by decide +kernel
theorem dX9_layRange_446 : decode cX9_layRange 446 = .ok (.lmul, 1) := by decide +kernel
theorem dX9_layRange_447 : decode cX9_layRange 447 = .ok (.invokestatic 138, 3) := by decide +kernel
theorem dX9_layRange_450 : decode cX9_layRange 450 = .ok (.istore 14, 2) := by decide +kernel
theorem dX9_layRange_452 : decode cX9_layRange 452 = .ok (.iload 7, 2) := by decide +kernel
theorem dX9_layRange_454 : decode cX9_layRange 454 = .ok (.i2l, 1) := by decide +kernel
theorem dX9_layRange_455 : decode cX9_layRange 455 = .ok (.lload 10, 2) := by decide +kernel
theorem dX9_layRange_457 : decode cX9_layRange 457 = .ok (.lmul, 1) := by decide +kernel
theorem dX9_layRange_458 : decode cX9_layRange 458 = .ok (.invokestatic 138, 3) := by decide +kernel
theorem dX9_layRange_461 : decode cX9_layRange 461 = .ok (.istore 15, 2) := by decide +kernel
theorem dX9_layRange_463 : decode cX9_layRange 463 = .ok (.iload 12, 2) := by decide +kernel
theorem dX9_layRange_465 : decode cX9_layRange 465 = .ok (.iload 13, 2) := by decide +kernel
theorem dX9_layRange_467 : decode cX9_layRange 467 = .ok (.if_icmp .ge 8, 3) := by decide +kernel
theorem dX9_layRange_470 : decode cX9_layRange 470 = .ok (.iload 12, 2) := by decide +kernel
theorem dX9_layRange_472 : decode cX9_layRange 472 = .ok (.goto 5, 3) := by decide +kernel
theorem dX9_layRange_475 : decode cX9_layRange 475 = .ok (.iload 13, 2) := by decide +kernel
theorem dX9_layRange_477 : decode cX9_layRange 477 = .ok (.istore 16, 2) := by decide +kernel
theorem dX9_layRange_479 : decode cX9_layRange 479 = .ok (.iload 14, 2) := by decide +kernel
theorem dX9_layRange_481 : decode cX9_layRange 481 = .ok (.iload 15, 2) := by decide +kernel
theorem dX9_layRange_483 : decode cX9_layRange 483 = .ok (.if_icmp .ge 8, 3) := by decide +kernel
theorem dX9_layRange_486 : decode cX9_layRange 486 = .ok (.iload 14, 2) := by decide +kernel
theorem dX9_layRange_488 : decode cX9_layRange 488 = .ok (.goto 5, 3) := by decide +kernel
theorem dX9_layRange_491 : decode cX9_layRange 491 = .ok (.iload 15, 2) := by decide +kernel
theorem dX9_layRange_493 : decode cX9_layRange 493 = .ok (.istore 17, 2) := by decide +kernel
theorem dX9_layRange_495 : decode cX9_layRange 495 = .ok (.iload 12, 2) := by decide +kernel
theorem dX9_layRange_497 : decode cX9_layRange 497 = .ok (.iload 13, 2) := by decide +kernel
theorem dX9_layRange_499 : decode cX9_layRange 499 = .ok (.if_icmp .le 8, 3) := by decide +kernel
theorem dX9_layRange_502 : decode cX9_layRange 502 = .ok (.iload 12, 2) := by decide +kernel
theorem dX9_layRange_504 : decode cX9_layRange 504 = .ok (.goto 5, 3) := by decide +kernel
theorem dX9_layRange_507 : decode cX9_layRange 507 = .ok (.iload 13, 2) := by decide +kernel
theorem dX9_layRange_509 : decode cX9_layRange 509 = .ok (.istore 18, 2) := by decide +kernel
theorem dX9_layRange_511 : decode cX9_layRange 511 = .ok (.iload 14, 2) := by decide +kernel
theorem dX9_layRange_513 : decode cX9_layRange 513 = .ok (.iload 15, 2) := by decide +kernel
theorem dX9_layRange_515 : decode cX9_layRange 515 = .ok (.if_icmp .le 8, 3) := by decide +kernel
theorem dX9_layRange_518 : decode cX9_layRange 518 = .ok (.iload 14, 2) := by decide +kernel
theorem dX9_layRange_520 : decode cX9_layRange 520 = .ok (.goto 5, 3) := by decide +kernel
theorem dX9_layRange_523 : decode cX9_layRange 523 = .ok (.iload 15, 2) := by decide +kernel
theorem dX9_layRange_525 : decode cX9_layRange 525 = .ok (.istore 19, 2) := by decide +kernel
theorem dX9_layRange_527 : decode cX9_layRange 527 = .ok (.aload_n 0, 1) := by decide +kernel
theorem dX9_layRange_528 : decode cX9_layRange 528 = .ok (.getfield 49, 3) := by decide +kernel
theorem dX9_layRange_531 : decode cX9_layRange 531 = .ok (.iload_n 2, 1) := by decide +kernel
theorem dX9_layRange_532 : decode cX9_layRange 532 = .ok (.iload 16, 2) := by decide +kernel
theorem dX9_layRange_534 : decode cX9_layRange 534 = .ok (.iload 17, 2) := by decide +kernel
theorem dX9_layRange_536 : decode cX9_layRange 536 = .ok (.if_icmp .ge 8, 3) := by decide +kernel
theorem dX9_layRange_539 : decode cX9_layRange 539 = .ok (.iload 16, 2) := by decide +kernel
theorem dX9_layRange_541 : decode cX9_layRange 541 = .ok (.goto 5, 3) := by decide +kernel
theorem dX9_layRange_544 : decode cX9_layRange 544 = .ok (.iload 17, 2) := by decide +kernel
theorem dX9_layRange_546 : decode cX9_layRange 546 = .ok (.iastore, 1) := by decide +kernel
theorem dX9_layRange_547 : decode cX9_layRange 547 = .ok (.aload_n 0, 1) := by decide +kernel
theorem dX9_layRange_548 : decode cX9_layRange 548 = .ok (.getfield 52, 3) := by decide +kernel
theorem dX9_layRange_551 : decode cX9_layRange 551 = .ok (.iload_n 2, 1) := by decide +kernel
theorem dX9_layRange_552 : decode cX9_layRange 552 = .ok (.iload 18, 2) := by decide +kernel
theorem dX9_layRange_554 : decode cX9_layRange 554 = .ok (.iload 19, 2) := by decide +kernel
theorem dX9_layRange_556 : decode cX9_layRange 556 = .ok (.if_icmp .le 8, 3) := by decide +kernel
theorem dX9_layRange_559 : decode cX9_layRange 559 = .ok (.iload 18, 2) := by decide +kernel
theorem dX9_layRange_561 : decode cX9_layRange 561 = .ok (.goto 5, 3) := by decide +kernel
theorem dX9_layRange_564 : decode cX9_layRange 564 = .ok (.iload 19, 2) := by decide +kernel
theorem dX9_layRange_566 : decode cX9_layRange 566 = .ok (.iastore, 1) := by decide +kernel
theorem dX9_layRange_567 : decode cX9_layRange 567 = .ok (.goto 211, 3) := by decide +kernel
theorem dX9_layRange_570 : decode cX9_layRange 570 = .ok (.aload_n 0, 1) := by decide +kernel
theorem dX9_layRange_571 : decode cX9_layRange 571 = .ok (.getfield 22, 3) := by decide +kernel
theorem dX9_layRange_574 : decode cX9_layRange 574 = .ok (.aload_n 0, 1) := by decide +kernel
theorem dX9_layRange_575 : decode cX9_layRange 575 = .ok (.getfield 34, 3) := by decide +kernel
theorem dX9_layRange_578 : decode cX9_layRange 578 = .ok (.iload_n 2, 1) := by decide +kernel
theorem dX9_layRange_579 : decode cX9_layRange 579 = .ok (.iaload, 1) := by decide +kernel
theorem dX9_layRange_580 : decode cX9_layRange 580 = .ok (.iconst 1, 1) := by decide +kernel
theorem dX9_layRange_581 : decode cX9_layRange 581 = .ok (.isub, 1) := by decide +kernel
theorem dX9_layRange_582 : decode cX9_layRange 582 = .ok (.iaload, 1) := by decide +kernel
theorem dX9_layRange_583 : decode cX9_layRange 583 = .ok (.bipush 48, 2) := by decide +kernel
theorem dX9_layRange_585 : decode cX9_layRange 585 = .ok (.isub, 1) := by decide +kernel
theorem dX9_layRange_586 : decode cX9_layRange 586 = .ok (.istore 20, 2) := by decide +kernel
theorem dX9_layRange_588 : decode cX9_layRange 588 = .ok (.iload 6, 2) := by decide +kernel
theorem dX9_layRange_590 : decode cX9_layRange 590 = .ok (.iload 20, 2) := by decide +kernel
theorem dX9_layRange_592 : decode cX9_layRange 592 = .ok (.idiv, 1) := by decide +kernel
theorem dX9_layRange_593 : decode cX9_layRange 593 = .ok (.iload 7, 2) := by decide +kernel
theorem dX9_layRange_595 : decode cX9_layRange 595 = .ok (.iload 20, 2) := by decide +kernel
theorem dX9_layRange_597 : decode cX9_layRange 597 = .ok (.idiv, 1) := by decide +kernel
theorem dX9_layRange_598 : decode cX9_layRange 598 = .ok (.if_icmp .ne 38, 3) := by decide +kernel
theorem dX9_layRange_601 : decode cX9_layRange 601 = .ok (.iload 6, 2) := by decide +kernel
theorem dX9_layRange_603 : decode cX9_layRange 603 = .ok (.ifCond .ge 8, 3) := by decide +kernel
theorem dX9_layRange_606 : decode cX9_layRange 606 = .ok (.iload 7, 2) := by decide +kernel
theorem dX9_layRange_608 : decode cX9_layRange 608 = .ok (.ifCond .gt 28, 3) := by decide +kernel
theorem dX9_layRange_611 : decode cX9_layRange 611 = .ok (.aload_n 0, 1) := by decide +kernel
theorem dX9_layRange_612 : decode cX9_layRange 612 = .ok (.getfield 49, 3) := by decide +kernel
theorem dX9_layRange_615 : decode cX9_layRange 615 = .ok (.iload_n 2, 1) := by decide +kernel
theorem dX9_layRange_616 : decode cX9_layRange 616 = .ok (.iload 6, 2) := by decide +kernel
theorem dX9_layRange_618 : decode cX9_layRange 618 = .ok (.iload 20, 2) := by decide +kernel
theorem dX9_layRange_620 : decode cX9_layRange 620 = .ok (.irem, 1) := by decide +kernel
theorem dX9_layRange_621 : decode cX9_layRange 621 = .ok (.iastore, 1) := by decide +kernel
theorem dX9_layRange_622 : decode cX9_layRange 622 = .ok (.aload_n 0, 1) := by decide +kernel
theorem dX9_layRange_623 : decode cX9_layRange 623 = .ok (.getfield 52, 3) := by decide +kernel
theorem dX9_layRange_626 : decode cX9_layRange 626 = .ok (.iload_n 2, 1) := by decide +kernel
theorem dX9_layRange_627 : decode cX9_layRange 627 = .ok (.iload 7, 2) := by decide +kernel
theorem dX9_layRange_629 : decode cX9_layRange 629 = .ok (.iload 20, 2) := by decide +kernel
theorem dX9_layRange_631 : decode cX9_layRange 631 = .ok (.irem, 1) := by decide +kernel
theorem dX9_layRange_632 : decode cX9_layRange 632 = .ok (.iastore, 1) := by decide +kernel
theorem dX9_layRange_633 : decode cX9_layRange 633 = .ok (.goto 145, 3) := by decide +kernel
theorem dX9_layRange_636 : decode cX9_layRange 636 = .ok (.aload_n 0, 1) := by decide +kernel
theorem dX9_layRange_637 : decode cX9_layRange 637 = .ok (.getfield 49, 3) := by decide +kernel
theorem dX9_layRange_640 : decode cX9_layRange 640 = .ok (.iload_n 2, 1) := by decide +kernel
theorem dX9_layRange_641 : decode cX9_layRange 641 = .ok (.iload 6, 2) := by decide +kernel
theorem dX9_layRange_643 : decode cX9_layRange 643 = .ok (.ifCond .lt 7, 3) := by decide +kernel
theorem dX9_layRange_646 : decode cX9_layRange 646 = .ok (.iconst 0, 1) := by decide +kernel
theorem dX9_layRange_647 : decode cX9_layRange 647 = .ok (.goto 21, 3) := by decide +kernel
theorem dX9_layRange_650 : decode cX9_layRange 650 = .ok (.iload 6, 2) := by decide +kernel
theorem dX9_layRange_652 : decode cX9_layRange 652 = .ok (.iconst 1, 1) := by decide +kernel
theorem dX9_layRange_653 : decode cX9_layRange 653 = .ok (.iload 20, 2) := by decide +kernel
theorem dX9_layRange_655 : decode cX9_layRange 655 = .ok (.isub, 1) := by decide +kernel
theorem dX9_layRange_656 : decode cX9_layRange 656 = .ok (.if_icmp .le 8, 3) := by decide +kernel
theorem dX9_layRange_659 : decode cX9_layRange 659 = .ok (.iload 6, 2) := by decide +kernel
theorem dX9_layRange_661 : decode cX9_layRange 661 = .ok (.goto 7, 3) := by decide +kernel
theorem dX9_layRange_664 : decode cX9_layRange 664 = .ok (.iconst 1, 1) := by decide +kernel
theorem dX9_layRange_665 : decode cX9_layRange 665 = .ok (.iload 20, 2) := by decide +kernel
theorem dX9_layRange_667 : decode cX9_layRange 667 = .ok (.isub, 1) := by decide +kernel
theorem dX9_layRange_668 : decode cX9_layRange 668 = .ok (.iastore, 1) := by decide +kernel
theorem dX9_layRange_669 : decode cX9_layRange 669 = .ok (.aload_n 0, 1) := by decide +kernel
theorem dX9_layRange_670 : decode cX9_layRange 670 = .ok (.getfield 52, 3) := by decide +kernel
theorem dX9_layRange_673 : decode cX9_layRange 673 = .ok (.iload_n 2, 1) := by decide +kernel
theorem dX9_layRange_674 : decode cX9_layRange 674 = .ok (.iload 7, 2) := by decide +kernel
theorem dX9_layRange_676 : decode cX9_layRange 676 = .ok (.ifCond .gt 7, 3) := by decide +kernel
theorem dX9_layRange_679 : decode cX9_layRange 679 = .ok (.iconst 0, 1) := by decide +kernel
theorem dX9_layRange_680 : decode cX9_layRange 680 = .ok (.goto 21, 3) := by decide +kernel
theorem dX9_layRange_683 : decode cX9_layRange 683 = .ok (.iload 7, 2) := by decide +kernel
theorem dX9_layRange_685 : decode cX9_layRange 685 = .ok (.iload 20, 2) := by decide +kernel
theorem dX9_layRange_687 : decode cX9_layRange 687 = .ok (.iconst 1, 1) := by decide +kernel
theorem dX9_layRange_688 : decode cX9_layRange 688 = .ok (.isub, 1) := by decide +kernel
theorem dX9_layRange_689 : decode cX9_layRange 689 = .ok (.if_icmp .ge 8, 3) := by decide +kernel
theorem dX9_layRange_692 : decode cX9_layRange 692 = .ok (.iload 7, 2) := by decide +kernel
theorem dX9_layRange_694 : decode cX9_layRange 694 = .ok (.goto 7, 3) := by decide +kernel
theorem dX9_layRange_697 : decode cX9_layRange 697 = .ok (.iload 20, 2) := by decide +kernel
theorem dX9_layRange_699 : decode cX9_layRange 699 = .ok (.iconst 1, 1) := by decide +kernel
theorem dX9_layRange_700 : decode cX9_layRange 700 = .ok (.isub, 1) := by decide +kernel
theorem dX9_layRange_701 : decode cX9_layRange 701 = .ok (.iastore, 1) := by decide +kernel
theorem dX9_layRange_702 : decode cX9_layRange 702 = .ok (.goto 76, 3) := by decide +kernel
theorem dX9_layRange_705 : decode cX9_layRange 705 = .ok (.iload 7, 2) := by decide +kernel
theorem dX9_layRange_707 : decode cX9_layRange 707 = .ok (.iload 6, 2) := by decide +kernel
theorem dX9_layRange_709 : decode cX9_layRange 709 = .ok (.isub, 1) := by decide +kernel
theorem dX9_layRange_710 : decode cX9_layRange 710 = .ok (.sipush 256, 3) := by decide +kernel
theorem dX9_layRange_713 : decode cX9_layRange 713 = .ok (.if_icmp .ge 20, 3) := by decide +kernel
theorem dX9_layRange_716 : decode cX9_layRange 716 = .ok (.iload 6, 2) := by decide +kernel
theorem dX9_layRange_718 : decode cX9_layRange 718 = .ok (.invokestatic 142, 3) := by decide +kernel
theorem dX9_layRange_721 : decode cX9_layRange 721 = .ok (.iload 7, 2) := by decide +kernel
theorem dX9_layRange_723 : decode cX9_layRange 723 = .ok (.invokestatic 142, 3) := by decide +kernel
theorem dX9_layRange_726 : decode cX9_layRange 726 = .ok (.if_icmp .gt 7, 3) := by decide +kernel
theorem dX9_layRange_729 : decode cX9_layRange 729 = .ok (.iconst 1, 1) := by decide +kernel
theorem dX9_layRange_730 : decode cX9_layRange 730 = .ok (.goto 4, 3) := by decide +kernel
theorem dX9_layRange_733 : decode cX9_layRange 733 = .ok (.iconst 0, 1) := by decide +kernel
theorem dX9_layRange_734 : decode cX9_layRange 734 = .ok (.istore 21, 2) := by decide +kernel
theorem dX9_layRange_736 : decode cX9_layRange 736 = .ok (.aload_n 0, 1) := by decide +kernel
theorem dX9_layRange_737 : decode cX9_layRange 737 = .ok (.getfield 49, 3) := by decide +kernel
theorem dX9_layRange_740 : decode cX9_layRange 740 = .ok (.iload_n 2, 1) := by decide +kernel
theorem dX9_layRange_741 : decode cX9_layRange 741 = .ok (.iload 21, 2) := by decide +kernel
theorem dX9_layRange_743 : decode cX9_layRange 743 = .ok (.ifCond .eq 11, 3) := by decide +kernel
theorem dX9_layRange_746 : decode cX9_layRange 746 = .ok (.iload 6, 2) := by decide +kernel
theorem dX9_layRange_748 : decode cX9_layRange 748 = .ok (.invokestatic 142, 3) := by decide +kernel
theorem dX9_layRange_751 : decode cX9_layRange 751 = .ok (.goto 5, 3) := by decide +kernel
theorem dX9_layRange_754 : decode cX9_layRange 754 = .ok (.bipush (-128), 2) := by decide +kernel
theorem dX9_layRange_756 : decode cX9_layRange 756 = .ok (.iastore, 1) := by decide +kernel
theorem dX9_layRange_757 : decode cX9_layRange 757 = .ok (.aload_n 0, 1) := by decide +kernel
theorem dX9_layRange_758 : decode cX9_layRange 758 = .ok (.getfield 52, 3) := by decide +kernel
theorem dX9_layRange_761 : decode cX9_layRange 761 = .ok (.iload_n 2, 1) := by decide +kernel
theorem dX9_layRange_762 : decode cX9_layRange 762 = .ok (.iload 21, 2) := by decide +kernel
theorem dX9_layRange_764 : decode cX9_layRange 764 = .ok (.ifCond .eq 11, 3) := by decide +kernel
theorem dX9_layRange_767 : decode cX9_layRange 767 = .ok (.iload 7, 2) := by decide +kernel
theorem dX9_layRange_769 : decode cX9_layRange 769 = .ok (.invokestatic 142, 3) := by decide +kernel
theorem dX9_layRange_772 : decode cX9_layRange 772 = .ok (.goto 5, 3) := by decide +kernel
theorem dX9_layRange_775 : decode cX9_layRange 775 = .ok (.bipush 127, 2) := by decide +kernel
theorem dX9_layRange_777 : decode cX9_layRange 777 = .ok (.iastore, 1) := by decide +kernel
theorem dX9_layRange_778 : decode cX9_layRange 778 = .ok (.return_, 1) := by decide +kernel
theorem dX9_bit_0 : decode cX9_bit 0 = .ok (.iload_n 0, 1) := by decide +kernel
theorem dX9_bit_1 : decode cX9_bit 1 = .ok (.iconst 1, 1) := by decide +kernel
theorem dX9_bit_2 : decode cX9_bit 2 = .ok (.if_icmp .ne 7, 3) := by decide +kernel
theorem dX9_bit_5 : decode cX9_bit 5 = .ok (.iconst 1, 1) := by decide +kernel
theorem dX9_bit_6 : decode cX9_bit 6 = .ok (.goto 12, 3) := by decide +kernel
theorem dX9_bit_9 : decode cX9_bit 9 = .ok (.iload_n 0, 1) := by decide +kernel
theorem dX9_bit_10 : decode cX9_bit 10 = .ok (.ifCond .ne 7, 3) := by decide +kernel
theorem dX9_bit_13 : decode cX9_bit 13 = .ok (.iconst 2, 1) := by decide +kernel
theorem dX9_bit_14 : decode cX9_bit 14 = .ok (.goto 4, 3) := by decide +kernel
theorem dX9_bit_17 : decode cX9_bit 17 = .ok (.iconst 4, 1) := by decide +kernel
theorem dX9_bit_18 : decode cX9_bit 18 = .ok (.ireturn, 1) := by decide +kernel
theorem dX9_mayAt_0 : decode cX9_mayAt 0 = .ok (.aload_n 0, 1) := by decide +kernel
theorem dX9_mayAt_1 : decode cX9_mayAt 1 = .ok (.getfield 25, 3) := by decide +kernel
theorem dX9_mayAt_4 : decode cX9_mayAt 4 = .ok (.iload_n 2, 1) := by decide +kernel
theorem dX9_mayAt_5 : decode cX9_mayAt 5 = .ok (.iaload, 1) := by decide +kernel
theorem dX9_mayAt_6 : decode cX9_mayAt 6 = .ok (.istore_n 3, 1) := by decide +kernel
theorem dX9_mayAt_7 : decode cX9_mayAt 7 = .ok (.iload_n 3, 1) := by decide +kernel
theorem dX9_mayAt_8 : decode cX9_mayAt 8 = .ok (.bipush 15, 2) := by decide +kernel
theorem dX9_mayAt_10 : decode cX9_mayAt 10 = .ok (.if_icmp .ne 58, 3) := by decide +kernel
theorem dX9_mayAt_13 : decode cX9_mayAt 13 = .ok (.aload_n 0, 1) := by decide +kernel
theorem dX9_mayAt_14 : decode cX9_mayAt 14 = .ok (.getfield 16, 3) := by decide +kernel
theorem dX9_mayAt_17 : decode cX9_mayAt 17 = .ok (.bipush 12, 2) := by decide +kernel
theorem dX9_mayAt_19 : decode cX9_mayAt 19 = .ok (.iconst 4, 1) := by decide +kernel
theorem dX9_mayAt_20 : decode cX9_mayAt 20 = .ok (.iload_n 1, 1) := by decide +kernel
theorem dX9_mayAt_21 : decode cX9_mayAt 21 = .ok (.imul, 1) := by decide +kernel
theorem dX9_mayAt_22 : decode cX9_mayAt 22 = .ok (.aload_n 0, 1) := by decide +kernel
theorem dX9_mayAt_23 : decode cX9_mayAt 23 = .ok (.getfield 22, 3) := by decide +kernel
theorem dX9_mayAt_26 : decode cX9_mayAt 26 = .ok (.iload_n 2, 1) := by decide +kernel
theorem dX9_mayAt_27 : decode cX9_mayAt 27 = .ok (.iconst 1, 1) := by decide +kernel
theorem dX9_mayAt_28 : decode cX9_mayAt 28 = .ok (.iadd, 1) := by decide +kernel
theorem dX9_mayAt_29 : decode cX9_mayAt 29 = .ok (.iaload, 1) := by decide +kernel
theorem dX9_mayAt_30 : decode cX9_mayAt 30 = .ok (.iadd, 1) := by decide +kernel
theorem dX9_mayAt_31 : decode cX9_mayAt 31 = .ok (.bipush 97, 2) := by decide +kernel
theorem dX9_mayAt_33 : decode cX9_mayAt 33 = .ok (.isub, 1) := by decide +kernel
theorem dX9_mayAt_34 : decode cX9_mayAt 34 = .ok (.imul, 1) := by decide +kernel
theorem dX9_mayAt_35 : decode cX9_mayAt 35 = .ok (.iconst 2, 1) := by decide +kernel
theorem dX9_mayAt_36 : decode cX9_mayAt 36 = .ok (.iadd, 1) := by decide +kernel
theorem dX9_mayAt_37 : decode cX9_mayAt 37 = .ok (.iaload, 1) := by decide +kernel
theorem dX9_mayAt_38 : decode cX9_mayAt 38 = .ok (.istore 4, 2) := by decide +kernel
theorem dX9_mayAt_40 : decode cX9_mayAt 40 = .ok (.iload 4, 2) := by decide +kernel
theorem dX9_mayAt_42 : decode cX9_mayAt 42 = .ok (.ifCond .le 7, 3) := by decide +kernel
theorem dX9_mayAt_45 : decode cX9_mayAt 45 = .ok (.iconst 1, 1) := by decide +kernel
theorem dX9_mayAt_46 : decode cX9_mayAt 46 = .ok (.goto 4, 3) := by decide +kernel
theorem dX9_mayAt_49 : decode cX9_mayAt 49 = .ok (.iconst 0, 1) := by decide +kernel
theorem dX9_mayAt_50 : decode cX9_mayAt 50 = .ok (.iload 4, 2) := by decide +kernel
theorem dX9_mayAt_52 : decode cX9_mayAt 52 = .ok (.aload_n 0, 1) := by decide +kernel
theorem dX9_mayAt_53 : decode cX9_mayAt 53 = .ok (.getfield 13, 3) := by decide +kernel
theorem dX9_mayAt_56 : decode cX9_mayAt 56 = .ok (.iload_n 1, 1) := by decide +kernel
theorem dX9_mayAt_57 : decode cX9_mayAt 57 = .ok (.iaload, 1) := by decide +kernel
theorem dX9_mayAt_58 : decode cX9_mayAt 58 = .ok (.if_icmp .ge 7, 3) := by decide +kernel
theorem dX9_mayAt_61 : decode cX9_mayAt 61 = .ok (.iconst 2, 1) := by decide +kernel
theorem dX9_mayAt_62 : decode cX9_mayAt 62 = .ok (.goto 4, 3) := by decide +kernel
theorem dX9_mayAt_65 : decode cX9_mayAt 65 = .ok (.iconst 0, 1) := by decide +kernel
theorem dX9_mayAt_66 : decode cX9_mayAt 66 = .ok (.iadd, 1) := by decide +kernel
theorem dX9_mayAt_67 : decode cX9_mayAt 67 = .ok (.ireturn, 1) := by decide +kernel
theorem dX9_mayAt_68 : decode cX9_mayAt 68 = .ok (.aload_n 0, 1) := by decide +kernel
theorem dX9_mayAt_69 : decode cX9_mayAt 69 = .ok (.getfield 28, 3) := by decide +kernel
theorem dX9_mayAt_72 : decode cX9_mayAt 72 = .ok (.iload_n 2, 1) := by decide +kernel
theorem dX9_mayAt_73 : decode cX9_mayAt 73 = .ok (.iaload, 1) := by decide +kernel
theorem dX9_mayAt_74 : decode cX9_mayAt 74 = .ok (.istore 4, 2) := by decide +kernel
theorem dX9_mayAt_76 : decode cX9_mayAt 76 = .ok (.iload_n 3, 1) := by decide +kernel
theorem dX9_mayAt_77 : decode cX9_mayAt 77 = .ok (.invokestatic 113, 3) := by decide +kernel
theorem dX9_mayAt_80 : decode cX9_mayAt 80 = .ok (.iconst 1, 1) := by decide +kernel
theorem dX9_mayAt_81 : decode cX9_mayAt 81 = .ok (.if_icmp .le 12, 3) := by decide +kernel
theorem dX9_mayAt_84 : decode cX9_mayAt 84 = .ok (.aload_n 0, 1) := by decide +kernel
theorem dX9_mayAt_85 : decode cX9_mayAt 85 = .ok (.getfield 31, 3) := by decide +kernel
theorem dX9_mayAt_88 : decode cX9_mayAt 88 = .ok (.iload_n 2, 1) := by decide +kernel
theorem dX9_mayAt_89 : decode cX9_mayAt 89 = .ok (.iaload, 1) := by decide +kernel
theorem dX9_mayAt_90 : decode cX9_mayAt 90 = .ok (.goto 5, 3) := by decide +kernel
theorem dX9_mayAt_93 : decode cX9_mayAt 93 = .ok (.iload 4, 2) := by decide +kernel
theorem dX9_mayAt_95 : decode cX9_mayAt 95 = .ok (.istore 5, 2) := by decide +kernel
theorem dX9_mayAt_97 : decode cX9_mayAt 97 = .ok (.iload_n 3, 1) := by decide +kernel
theorem dX9_mayAt_98 : decode cX9_mayAt 98 = .ok (.bipush 10, 2) := by decide +kernel
theorem dX9_mayAt_100 : decode cX9_mayAt 100 = .ok (.if_icmp .eq 9, 3) := by decide +kernel
theorem dX9_mayAt_103 : decode cX9_mayAt 103 = .ok (.iload_n 3, 1) := by decide +kernel
theorem dX9_mayAt_104 : decode cX9_mayAt 104 = .ok (.bipush 11, 2) := by decide +kernel
theorem dX9_mayAt_106 : decode cX9_mayAt 106 = .ok (.if_icmp .ne 226, 3) := by decide +kernel
theorem dX9_mayAt_109 : decode cX9_mayAt 109 = .ok (.aload_n 0, 1) := by decide +kernel
theorem dX9_mayAt_110 : decode cX9_mayAt 110 = .ok (.getfield 46, 3) := by decide +kernel
theorem dX9_mayAt_113 : decode cX9_mayAt 113 = .ok (.iload 4, 2) := by decide +kernel
theorem dX9_mayAt_115 : decode cX9_mayAt 115 = .ok (.iaload, 1) := by decide +kernel
theorem dX9_mayAt_116 : decode cX9_mayAt 116 = .ok (.aload_n 0, 1) := by decide +kernel
theorem dX9_mayAt_117 : decode cX9_mayAt 117 = .ok (.getfield 46, 3) := by decide +kernel
theorem dX9_mayAt_120 : decode cX9_mayAt 120 = .ok (.iload 5, 2) := by decide +kernel
theorem dX9_mayAt_122 : decode cX9_mayAt 122 = .ok (.iaload, 1) := by decide +kernel
theorem dX9_mayAt_123 : decode cX9_mayAt 123 = .ok (.ior, 1) := by decide +kernel
theorem dX9_mayAt_124 : decode cX9_mayAt 124 = .ok (.iconst 2, 1) := by decide +kernel
theorem dX9_mayAt_125 : decode cX9_mayAt 125 = .ok (.iand, 1) := by decide +kernel
theorem dX9_mayAt_126 : decode cX9_mayAt 126 = .ok (.ifCond .eq 7, 3) := by decide +kernel
theorem dX9_mayAt_129 : decode cX9_mayAt 129 = .ok (.iconst 4, 1) := by decide +kernel
theorem dX9_mayAt_130 : decode cX9_mayAt 130 = .ok (.goto 4, 3) := by decide +kernel
theorem dX9_mayAt_133 : decode cX9_mayAt 133 = .ok (.iconst 0, 1) := by decide +kernel
theorem dX9_mayAt_134 : decode cX9_mayAt 134 = .ok (.istore 6, 2) := by decide +kernel
theorem dX9_mayAt_136 : decode cX9_mayAt 136 = .ok (.aload_n 0, 1) := by decide +kernel
theorem dX9_mayAt_137 : decode cX9_mayAt 137 = .ok (.getfield 46, 3) := by decide +kernel
theorem dX9_mayAt_140 : decode cX9_mayAt 140 = .ok (.iload 4, 2) := by decide +kernel
theorem dX9_mayAt_142 : decode cX9_mayAt 142 = .ok (.iaload, 1) := by decide +kernel
theorem dX9_mayAt_143 : decode cX9_mayAt 143 = .ok (.aload_n 0, 1) := by decide +kernel
theorem dX9_mayAt_144 : decode cX9_mayAt 144 = .ok (.getfield 46, 3) := by decide +kernel
theorem dX9_mayAt_147 : decode cX9_mayAt 147 = .ok (.iload 5, 2) := by decide +kernel
theorem dX9_mayAt_149 : decode cX9_mayAt 149 = .ok (.iaload, 1) := by decide +kernel
theorem dX9_mayAt_150 : decode cX9_mayAt 150 = .ok (.iand, 1) := by decide +kernel
theorem dX9_mayAt_151 : decode cX9_mayAt 151 = .ok (.iconst 1, 1) := by decide +kernel
theorem dX9_mayAt_152 : decode cX9_mayAt 152 = .ok (.iand, 1) := by decide +kernel
theorem dX9_mayAt_153 : decode cX9_mayAt 153 = .ok (.iconst 1, 1) := by decide +kernel
theorem dX9_mayAt_154 : decode cX9_mayAt 154 = .ok (.if_icmp .ne 175, 3) := by decide +kernel
theorem dX9_mayAt_157 : decode cX9_mayAt 157 = .ok (.iload_n 3, 1) := by decide +kernel
theorem dX9_mayAt_158 : decode cX9_mayAt 158 = .ok (.bipush 10, 2) := by decide +kernel
theorem dX9_mayAt_160 : decode cX9_mayAt 160 = .ok (.if_icmp .ne 56, 3) := by decide +kernel
theorem dX9_mayAt_163 : decode cX9_mayAt 163 = .ok (.iload 6, 2) := by decide +kernel
theorem dX9_mayAt_165 : decode cX9_mayAt 165 = .ok (.aload_n 0, 1) := by decide +kernel
theorem dX9_mayAt_166 : decode cX9_mayAt 166 = .ok (.getfield 49, 3) := by decide +kernel
theorem dX9_mayAt_169 : decode cX9_mayAt 169 = .ok (.iload 4, 2) := by decide +kernel
theorem dX9_mayAt_171 : decode cX9_mayAt 171 = .ok (.iaload, 1) := by decide +kernel
theorem dX9_mayAt_172 : decode cX9_mayAt 172 = .ok (.aload_n 0, 1) := by decide +kernel
theorem dX9_mayAt_173 : decode cX9_mayAt 173 = .ok (.getfield 52, 3) := by decide +kernel
theorem dX9_mayAt_176 : decode cX9_mayAt 176 = .ok (.iload 5, 2) := by decide +kernel
theorem dX9_mayAt_178 : decode cX9_mayAt 178 = .ok (.iaload, 1) := by decide +kernel
theorem dX9_mayAt_179 : decode cX9_mayAt 179 = .ok (.if_icmp .ge 7, 3) := by decide +kernel
theorem dX9_mayAt_182 : decode cX9_mayAt 182 = .ok (.iconst 1, 1) := by decide +kernel
theorem dX9_mayAt_183 : decode cX9_mayAt 183 = .ok (.goto 4, 3) := by decide +kernel
theorem dX9_mayAt_186 : decode cX9_mayAt 186 = .ok (.iconst 0, 1) := by decide +kernel
theorem dX9_mayAt_187 : decode cX9_mayAt 187 = .ok (.aload_n 0, 1) := by decide +kernel
theorem dX9_mayAt_188 : decode cX9_mayAt 188 = .ok (.getfield 52, 3) := by decide +kernel
theorem dX9_mayAt_191 : decode cX9_mayAt 191 = .ok (.iload 4, 2) := by decide +kernel
theorem dX9_mayAt_193 : decode cX9_mayAt 193 = .ok (.iaload, 1) := by decide +kernel
theorem dX9_mayAt_194 : decode cX9_mayAt 194 = .ok (.aload_n 0, 1) := by decide +kernel
theorem dX9_mayAt_195 : decode cX9_mayAt 195 = .ok (.getfield 49, 3) := by decide +kernel
theorem dX9_mayAt_198 : decode cX9_mayAt 198 = .ok (.iload 5, 2) := by decide +kernel
theorem dX9_mayAt_200 : decode cX9_mayAt 200 = .ok (.iaload, 1) := by decide +kernel
theorem dX9_mayAt_201 : decode cX9_mayAt 201 = .ok (.if_icmp .lt 7, 3) := by decide +kernel
theorem dX9_mayAt_204 : decode cX9_mayAt 204 = .ok (.iconst 2, 1) := by decide +kernel
theorem dX9_mayAt_205 : decode cX9_mayAt 205 = .ok (.goto 4, 3) := by decide +kernel
theorem dX9_mayAt_208 : decode cX9_mayAt 208 = .ok (.iconst 0, 1) := by decide +kernel
theorem dX9_mayAt_209 : decode cX9_mayAt 209 = .ok (.iadd, 1) := by decide +kernel
theorem dX9_mayAt_210 : decode cX9_mayAt 210 = .ok (.iadd, 1) := by decide +kernel
theorem dX9_mayAt_211 : decode cX9_mayAt 211 = .ok (.istore 6, 2) := by decide +kernel
theorem dX9_mayAt_213 : decode cX9_mayAt 213 = .ok (.goto 116, 3) := by decide +kernel
theorem dX9_mayAt_216 : decode cX9_mayAt 216 = .ok (.aload_n 0, 1) := by decide +kernel
theorem dX9_mayAt_217 : decode cX9_mayAt 217 = .ok (.getfield 49, 3) := by decide +kernel
theorem dX9_mayAt_220 : decode cX9_mayAt 220 = .ok (.iload 4, 2) := by decide +kernel
theorem dX9_mayAt_222 : decode cX9_mayAt 222 = .ok (.iaload, 1) := by decide +kernel
theorem dX9_mayAt_223 : decode cX9_mayAt 223 = .ok (.aload_n 0, 1) := by decide +kernel
theorem dX9_mayAt_224 : decode cX9_mayAt 224 = .ok (.getfield 52, 3) := by decide +kernel
theorem dX9_mayAt_227 : decode cX9_mayAt 227 = .ok (.iload 4, 2) := by decide +kernel
theorem dX9_mayAt_229 : decode cX9_mayAt 229 = .ok (.iaload, 1) := by decide +kernel
theorem dX9_mayAt_230 : decode cX9_mayAt 230 = .ok (.if_icmp .ne 41, 3) := by decide +kernel
theorem dX9_mayAt_233 : decode cX9_mayAt 233 = .ok (.aload_n 0, 1) := by decide +kernel
theorem dX9_mayAt_234 : decode cX9_mayAt 234 = .ok (.getfield 49, 3) := by decide +kernel
theorem dX9_mayAt_237 : decode cX9_mayAt 237 = .ok (.iload 4, 2) := by decide +kernel
theorem dX9_mayAt_239 : decode cX9_mayAt 239 = .ok (.iaload, 1) := by decide +kernel
theorem dX9_mayAt_240 : decode cX9_mayAt 240 = .ok (.aload_n 0, 1) := by decide +kernel
theorem dX9_mayAt_241 : decode cX9_mayAt 241 = .ok (.getfield 49, 3) := by decide +kernel
theorem dX9_mayAt_244 : decode cX9_mayAt 244 = .ok (.iload 5, 2) := by decide +kernel
theorem dX9_mayAt_246 : decode cX9_mayAt 246 = .ok (.iaload, 1) := by decide +kernel
theorem dX9_mayAt_247 : decode cX9_mayAt 247 = .ok (.if_icmp .ne 24, 3) := by decide +kernel
theorem dX9_mayAt_250 : decode cX9_mayAt 250 = .ok (.aload_n 0, 1) := by decide +kernel
theorem dX9_mayAt_251 : decode cX9_mayAt 251 = .ok (.getfield 49, 3) := by decide +kernel
theorem dX9_mayAt_254 : decode cX9_mayAt 254 = .ok (.iload 4, 2) := by decide +kernel
theorem dX9_mayAt_256 : decode cX9_mayAt 256 = .ok (.iaload, 1) := by decide +kernel
theorem dX9_mayAt_257 : decode cX9_mayAt 257 = .ok (.aload_n 0, 1) := by decide +kernel
theorem dX9_mayAt_258 : decode cX9_mayAt 258 = .ok (.getfield 52, 3) := by decide +kernel
theorem dX9_mayAt_261 : decode cX9_mayAt 261 = .ok (.iload 5, 2) := by decide +kernel
theorem dX9_mayAt_263 : decode cX9_mayAt 263 = .ok (.iaload, 1) := by decide +kernel
theorem dX9_mayAt_264 : decode cX9_mayAt 264 = .ok (.if_icmp .ne 7, 3) := by decide +kernel
theorem dX9_mayAt_267 : decode cX9_mayAt 267 = .ok (.iconst 1, 1) := by decide +kernel
theorem dX9_mayAt_268 : decode cX9_mayAt 268 = .ok (.goto 4, 3) := by decide +kernel
theorem dX9_mayAt_271 : decode cX9_mayAt 271 = .ok (.iconst 0, 1) := by decide +kernel
theorem dX9_mayAt_272 : decode cX9_mayAt 272 = .ok (.istore 7, 2) := by decide +kernel
theorem dX9_mayAt_274 : decode cX9_mayAt 274 = .ok (.iload 6, 2) := by decide +kernel
theorem dX9_mayAt_276 : decode cX9_mayAt 276 = .ok (.aload_n 0, 1) := by decide +kernel
theorem dX9_mayAt_277 : decode cX9_mayAt 277 = .ok (.getfield 49, 3) := by decide +kernel
theorem dX9_mayAt_280 : decode cX9_mayAt 280 = .ok (.iload 4, 2) := by decide +kernel
theorem dX9_mayAt_282 : decode cX9_mayAt 282 = .ok (.iaload, 1) := by decide +kernel
theorem dX9_mayAt_283 : decode cX9_mayAt 283 = .ok (.aload_n 0, 1) := by decide +kernel
theorem dX9_mayAt_284 : decode cX9_mayAt 284 = .ok (.getfield 52, 3) := by decide +kernel
theorem dX9_mayAt_287 : decode cX9_mayAt 287 = .ok (.iload 5, 2) := by decide +kernel
theorem dX9_mayAt_289 : decode cX9_mayAt 289 = .ok (.iaload, 1) := by decide +kernel
theorem dX9_mayAt_290 : decode cX9_mayAt 290 = .ok (.if_icmp .gt 24, 3) := by decide +kernel
theorem dX9_mayAt_293 : decode cX9_mayAt 293 = .ok (.aload_n 0, 1) := by decide +kernel
theorem dX9_mayAt_294 : decode cX9_mayAt 294 = .ok (.getfield 49, 3) := by decide +kernel
theorem dX9_mayAt_297 : decode cX9_mayAt 297 = .ok (.iload 5, 2) := by decide +kernel
theorem dX9_mayAt_299 : decode cX9_mayAt 299 = .ok (.iaload, 1) := by decide +kernel
theorem dX9_mayAt_300 : decode cX9_mayAt 300 = .ok (.aload_n 0, 1) := by decide +kernel
theorem dX9_mayAt_301 : decode cX9_mayAt 301 = .ok (.getfield 52, 3) := by decide +kernel
theorem dX9_mayAt_304 : decode cX9_mayAt 304 = .ok (.iload 4, 2) := by decide +kernel
theorem dX9_mayAt_306 : decode cX9_mayAt 306 = .ok (.iaload, 1) := by decide +kernel
theorem dX9_mayAt_307 : decode cX9_mayAt 307 = .ok (.if_icmp .gt 7, 3) := by decide +kernel
theorem dX9_mayAt_310 : decode cX9_mayAt 310 = .ok (.iconst 1, 1) := by decide +kernel
theorem dX9_mayAt_311 : decode cX9_mayAt 311 = .ok (.goto 4, 3) := by decide +kernel
theorem dX9_mayAt_314 : decode cX9_mayAt 314 = .ok (.iconst 0, 1) := by decide +kernel
theorem dX9_mayAt_315 : decode cX9_mayAt 315 = .ok (.iload 7, 2) := by decide +kernel
theorem dX9_mayAt_317 : decode cX9_mayAt 317 = .ok (.ifCond .eq 7, 3) := by decide +kernel
theorem dX9_mayAt_320 : decode cX9_mayAt 320 = .ok (.iconst 0, 1) := by decide +kernel
theorem dX9_mayAt_321 : decode cX9_mayAt 321 = .ok (.goto 4, 3) := by decide +kernel
theorem dX9_mayAt_324 : decode cX9_mayAt 324 = .ok (.iconst 2, 1) := by decide +kernel
theorem dX9_mayAt_325 : decode cX9_mayAt 325 = .ok (.iadd, 1) := by decide +kernel
theorem dX9_mayAt_326 : decode cX9_mayAt 326 = .ok (.iadd, 1) := by decide +kernel
theorem dX9_mayAt_327 : decode cX9_mayAt 327 = .ok (.istore 6, 2) := by decide +kernel
theorem dX9_mayAt_329 : decode cX9_mayAt 329 = .ok (.iload 6, 2) := by decide +kernel
theorem dX9_mayAt_331 : decode cX9_mayAt 331 = .ok (.ireturn, 1) := by decide +kernel
theorem dX9_mayAt_332 : decode cX9_mayAt 332 = .ok (.iconst 0, 1) := by decide +kernel
theorem dX9_mayAt_333 : decode cX9_mayAt 333 = .ok (.istore 6, 2) := by decide +kernel
theorem dX9_mayAt_335 : decode cX9_mayAt 335 = .ok (.iconst 0, 1) := by decide +kernel
theorem dX9_mayAt_336 : decode cX9_mayAt 336 = .ok (.istore 7, 2) := by decide +kernel
theorem dX9_mayAt_338 : decode cX9_mayAt 338 = .ok (.iload 7, 2) := by decide +kernel
theorem dX9_mayAt_340 : decode cX9_mayAt 340 = .ok (.iconst 3, 1) := by decide +kernel
theorem dX9_mayAt_341 : decode cX9_mayAt 341 = .ok (.if_icmp .ge 101, 3) := by decide +kernel
theorem dX9_mayAt_344 : decode cX9_mayAt 344 = .ok (.iconst 0, 1) := by decide +kernel
theorem dX9_mayAt_345 : decode cX9_mayAt 345 = .ok (.istore 8, 2) := by decide +kernel
theorem dX9_mayAt_347 : decode cX9_mayAt 347 = .ok (.iload 8, 2) := by decide +kernel
theorem dX9_mayAt_349 : decode cX9_mayAt 349 = .ok (.iconst 3, 1) := by decide +kernel
theorem dX9_mayAt_350 : decode cX9_mayAt 350 = .ok (.if_icmp .ge 86, 3) := by decide +kernel
theorem dX9_mayAt_353 : decode cX9_mayAt 353 = .ok (.aload_n 0, 1) := by decide +kernel
theorem dX9_mayAt_354 : decode cX9_mayAt 354 = .ok (.getfield 46, 3) := by decide +kernel
theorem dX9_mayAt_357 : decode cX9_mayAt 357 = .ok (.iload 4, 2) := by decide +kernel
theorem dX9_mayAt_359 : decode cX9_mayAt 359 = .ok (.iaload, 1) := by decide +kernel
theorem dX9_mayAt_360 : decode cX9_mayAt 360 = .ok (.iload 7, 2) := by decide +kernel
theorem dX9_mayAt_362 : decode cX9_mayAt 362 = .ok (.invokestatic 166, 3) := by decide +kernel
theorem dX9_mayAt_365 : decode cX9_mayAt 365 = .ok (.iand, 1) := by decide +kernel
theorem dX9_mayAt_366 : decode cX9_mayAt 366 = .ok (.ifCond .eq 64, 3) := by decide +kernel
theorem dX9_mayAt_369 : decode cX9_mayAt 369 = .ok (.aload_n 0, 1) := by decide +kernel
theorem dX9_mayAt_370 : decode cX9_mayAt 370 = .ok (.getfield 46, 3) := by decide +kernel
theorem dX9_mayAt_373 : decode cX9_mayAt 373 = .ok (.iload 5, 2) := by decide +kernel
theorem dX9_mayAt_375 : decode cX9_mayAt 375 = .ok (.iaload, 1) := by decide +kernel
theorem dX9_mayAt_376 : decode cX9_mayAt 376 = .ok (.iload 8, 2) := by decide +kernel
theorem dX9_mayAt_378 : decode cX9_mayAt 378 = .ok (.invokestatic 166, 3) := by decide +kernel
theorem dX9_mayAt_381 : decode cX9_mayAt 381 = .ok (.iand, 1) := by decide +kernel
theorem dX9_mayAt_382 : decode cX9_mayAt 382 = .ok (.ifCond .eq 48, 3) := by decide +kernel
theorem dX9_mayAt_385 : decode cX9_mayAt 385 = .ok (.iload 6, 2) := by decide +kernel
theorem dX9_mayAt_387 : decode cX9_mayAt 387 = .ok (.iload_n 3, 1) := by decide +kernel
theorem dX9_mayAt_388 : decode cX9_mayAt 388 = .ok (.bipush 14, 2) := by decide +kernel
theorem dX9_mayAt_390 : decode cX9_mayAt 390 = .ok (.if_icmp .ne 11, 3) := by decide +kernel
theorem dX9_mayAt_393 : decode cX9_mayAt 393 = .ok (.iload 7, 2) := by decide +kernel
theorem dX9_mayAt_395 : decode cX9_mayAt 395 = .ok (.invokestatic 145, 3) := by decide +kernel
theorem dX9_mayAt_398 : decode cX9_mayAt 398 = .ok (.goto 26, 3) := by decide +kernel
theorem dX9_mayAt_401 : decode cX9_mayAt 401 = .ok (.iload_n 3, 1) := by decide +kernel
theorem dX9_mayAt_402 : decode cX9_mayAt 402 = .ok (.bipush 12, 2) := by decide +kernel
theorem dX9_mayAt_404 : decode cX9_mayAt 404 = .ok (.if_icmp .ne 13, 3) := by decide +kernel
theorem dX9_mayAt_407 : decode cX9_mayAt 407 = .ok (.iload 7, 2) := by decide +kernel
theorem dX9_mayAt_409 : decode cX9_mayAt 409 = .ok (.iload 8, 2) := by decide +kernel
theorem dX9_mayAt_411 : decode cX9_mayAt 411 = .ok (.invokestatic 148, 3) := by decide +kernel
theorem dX9_mayAt_414 : decode cX9_mayAt 414 = .ok (.goto 10, 3) := by decide +kernel
theorem dX9_mayAt_417 : decode cX9_mayAt 417 = .ok (.iload 7, 2) := by decide +kernel
theorem dX9_mayAt_419 : decode cX9_mayAt 419 = .ok (.iload 8, 2) := by decide +kernel
theorem dX9_mayAt_421 : decode cX9_mayAt 421 = .ok (.invokestatic 151, 3) := by decide +kernel
theorem dX9_mayAt_424 : decode cX9_mayAt 424 = .ok (.invokestatic 166, 3) := by decide +kernel
theorem dX9_mayAt_427 : decode cX9_mayAt 427 = .ok (.ior, 1) := by decide +kernel
theorem dX9_mayAt_428 : decode cX9_mayAt 428 = .ok (.istore 6, 2) := by decide +kernel
theorem dX9_mayAt_430 : decode cX9_mayAt 430 = .ok (.iinc 8 1, 3) := by decide +kernel
theorem dX9_mayAt_433 : decode cX9_mayAt 433 = .ok (.goto (-86), 3) := by decide +kernel
theorem dX9_mayAt_436 : decode cX9_mayAt 436 = .ok (.iinc 7 1, 3) := by decide +kernel
theorem dX9_mayAt_439 : decode cX9_mayAt 439 = .ok (.goto (-101), 3) := by decide +kernel
theorem dX9_mayAt_442 : decode cX9_mayAt 442 = .ok (.iload 6, 2) := by decide +kernel
theorem dX9_mayAt_444 : decode cX9_mayAt 444 = .ok (.ireturn, 1) := by decide +kernel
theorem dX9_range_0 : decode cX9_range 0 = .ok (.iload_n 1, 1) := by decide +kernel
theorem dX9_range_1 : decode cX9_range 1 = .ok (.invokestatic 70, 3) := by decide +kernel
theorem dX9_range_4 : decode cX9_range 4 = .ok (.ifCond .ne 6, 3) := by decide +kernel
theorem dX9_range_7 : decode cX9_range 7 = .ok (.ldc 100, 2) := by decide +kernel
theorem dX9_range_9 : decode cX9_range 9 = .ok (.ireturn, 1) := by decide +kernel
theorem dX9_range_10 : decode cX9_range 10 = .ok (.iload_n 2, 1) := by decide +kernel
theorem dX9_range_11 : decode cX9_range 11 = .ok (.iconst 0, 1) := by decide +kernel
theorem dX9_range_12 : decode cX9_range 12 = .ok (.aload_n 0, 1) := by decide +kernel
theorem dX9_range_13 : decode cX9_range 13 = .ok (.getfield 102, 3) := by decide +kernel
theorem dX9_range_16 : decode cX9_range 16 = .ok (.iconst 1, 1) := by decide +kernel
theorem dX9_range_17 : decode cX9_range 17 = .ok (.isub, 1) := by decide +kernel
theorem dX9_range_18 : decode cX9_range 18 = .ok (.invokestatic 66, 3) := by decide +kernel
theorem dX9_range_21 : decode cX9_range 21 = .ok (.ifCond .eq 12, 3) := by decide +kernel
theorem dX9_range_24 : decode cX9_range 24 = .ok (.iload_n 3, 1) := by decide +kernel
theorem dX9_range_25 : decode cX9_range 25 = .ok (.iconst 0, 1) := by decide +kernel
theorem dX9_range_26 : decode cX9_range 26 = .ok (.iconst 2, 1) := by decide +kernel
theorem dX9_range_27 : decode cX9_range 27 = .ok (.invokestatic 66, 3) := by decide +kernel
theorem dX9_range_30 : decode cX9_range 30 = .ok (.ifCond .ne 6, 3) := by decide +kernel
theorem dX9_range_33 : decode cX9_range 33 = .ok (.ldc 101, 2) := by decide +kernel
theorem dX9_range_35 : decode cX9_range 35 = .ok (.ireturn, 1) := by decide +kernel
theorem dX9_range_36 : decode cX9_range 36 = .ok (.aload_n 0, 1) := by decide +kernel
theorem dX9_range_37 : decode cX9_range 37 = .ok (.invokevirtual 116, 3) := by decide +kernel
theorem dX9_range_40 : decode cX9_range 40 = .ok (.ldc 74, 2) := by decide +kernel
theorem dX9_range_42 : decode cX9_range 42 = .ok (.if_icmp .eq 6, 3) := by decide +kernel
theorem dX9_range_45 : decode cX9_range 45 = .ok (.ldc 169, 2) := by decide +kernel
theorem dX9_range_47 : decode cX9_range 47 = .ok (.ireturn, 1) := by decide +kernel
theorem dX9_range_48 : decode cX9_range 48 = .ok (.aload_n 0, 1) := by decide +kernel
theorem dX9_range_49 : decode cX9_range 49 = .ok (.getfield 13, 3) := by decide +kernel
theorem dX9_range_52 : decode cX9_range 52 = .ok (.iload_n 1, 1) := by decide +kernel
theorem dX9_range_53 : decode cX9_range 53 = .ok (.iaload, 1) := by decide +kernel
theorem dX9_range_54 : decode cX9_range 54 = .ok (.ifCond .eq 11, 3) := by decide +kernel
theorem dX9_range_57 : decode cX9_range 57 = .ok (.aload_n 0, 1) := by decide +kernel
theorem dX9_range_58 : decode cX9_range 58 = .ok (.iload_n 2, 1) := by decide +kernel
theorem dX9_range_59 : decode cX9_range 59 = .ok (.invokevirtual 126, 3) := by decide +kernel
theorem dX9_range_62 : decode cX9_range 62 = .ok (.ifCond .ne 6, 3) := by decide +kernel
theorem dX9_range_65 : decode cX9_range 65 = .ok (.ldc 170, 2) := by decide +kernel
theorem dX9_range_67 : decode cX9_range 67 = .ok (.ireturn, 1) := by decide +kernel
theorem dX9_range_68 : decode cX9_range 68 = .ok (.aload_n 0, 1) := by decide +kernel
theorem dX9_range_69 : decode cX9_range 69 = .ok (.iload_n 1, 1) := by decide +kernel
theorem dX9_range_70 : decode cX9_range 70 = .ok (.invokevirtual 171, 3) := by decide +kernel
theorem dX9_range_73 : decode cX9_range 73 = .ok (.aload_n 0, 1) := by decide +kernel
theorem dX9_range_74 : decode cX9_range 74 = .ok (.getfield 46, 3) := by decide +kernel
theorem dX9_range_77 : decode cX9_range 77 = .ok (.iload_n 2, 1) := by decide +kernel
theorem dX9_range_78 : decode cX9_range 78 = .ok (.iaload, 1) := by decide +kernel
theorem dX9_range_79 : decode cX9_range 79 = .ok (.iconst 1, 1) := by decide +kernel
theorem dX9_range_80 : decode cX9_range 80 = .ok (.iand, 1) := by decide +kernel
theorem dX9_range_81 : decode cX9_range 81 = .ok (.iconst 1, 1) := by decide +kernel
theorem dX9_range_82 : decode cX9_range 82 = .ok (.if_icmp .ne 7, 3) := by decide +kernel
theorem dX9_range_85 : decode cX9_range 85 = .ok (.iconst 1, 1) := by decide +kernel
theorem dX9_range_86 : decode cX9_range 86 = .ok (.goto 4, 3) := by decide +kernel
theorem dX9_range_89 : decode cX9_range 89 = .ok (.iconst 0, 1) := by decide +kernel
theorem dX9_range_90 : decode cX9_range 90 = .ok (.istore 4, 2) := by decide +kernel
theorem dX9_range_92 : decode cX9_range 92 = .ok (.iload_n 3, 1) := by decide +kernel
theorem dX9_range_93 : decode cX9_range 93 = .ok (.ifCond .ne 12, 3) := by decide +kernel
theorem dX9_range_96 : decode cX9_range 96 = .ok (.aload_n 0, 1) := by decide +kernel
theorem dX9_range_97 : decode cX9_range 97 = .ok (.getfield 46, 3) := by decide +kernel
theorem dX9_range_100 : decode cX9_range 100 = .ok (.iload_n 2, 1) := by decide +kernel
theorem dX9_range_101 : decode cX9_range 101 = .ok (.iaload, 1) := by decide +kernel
theorem dX9_range_102 : decode cX9_range 102 = .ok (.goto 33, 3) := by decide +kernel
theorem dX9_range_105 : decode cX9_range 105 = .ok (.iload 4, 2) := by decide +kernel
theorem dX9_range_107 : decode cX9_range 107 = .ok (.ifCond .ne 8, 3) := by decide +kernel
theorem dX9_range_110 : decode cX9_range 110 = .ok (.ldc 74, 2) := by decide +kernel
theorem dX9_range_112 : decode cX9_range 112 = .ok (.goto 23, 3) := by decide +kernel
theorem dX9_range_115 : decode cX9_range 115 = .ok (.iload_n 3, 1) := by decide +kernel
theorem dX9_range_116 : decode cX9_range 116 = .ok (.iconst 1, 1) := by decide +kernel
theorem dX9_range_117 : decode cX9_range 117 = .ok (.if_icmp .ne 12, 3) := by decide +kernel
theorem dX9_range_120 : decode cX9_range 120 = .ok (.aload_n 0, 1) := by decide +kernel
theorem dX9_range_121 : decode cX9_range 121 = .ok (.getfield 49, 3) := by decide +kernel
theorem dX9_range_124 : decode cX9_range 124 = .ok (.iload_n 2, 1) := by decide +kernel
theorem dX9_range_125 : decode cX9_range 125 = .ok (.iaload, 1) := by decide +kernel
theorem dX9_range_126 : decode cX9_range 126 = .ok (.goto 9, 3) := by decide +kernel
theorem dX9_range_129 : decode cX9_range 129 = .ok (.aload_n 0, 1) := by decide +kernel
theorem dX9_range_130 : decode cX9_range 130 = .ok (.getfield 52, 3) := by decide +kernel
theorem dX9_range_133 : decode cX9_range 133 = .ok (.iload_n 2, 1) := by decide +kernel
theorem dX9_range_134 : decode cX9_range 134 = .ok (.iaload, 1) := by decide +kernel
theorem dX9_range_135 : decode cX9_range 135 = .ok (.ireturn, 1) := by decide +kernel
theorem dX9_may_0 : decode cX9_may 0 = .ok (.iload_n 1, 1) := by decide +kernel
theorem dX9_may_1 : decode cX9_may 1 = .ok (.invokestatic 70, 3) := by decide +kernel
theorem dX9_may_4 : decode cX9_may 4 = .ok (.ifCond .ne 5, 3) := by decide +kernel
theorem dX9_may_7 : decode cX9_may 7 = .ok (.iconst (-1), 1) := by decide +kernel
theorem dX9_may_8 : decode cX9_may 8 = .ok (.ireturn, 1) := by decide +kernel
theorem dX9_may_9 : decode cX9_may 9 = .ok (.iload_n 2, 1) := by decide +kernel
theorem dX9_may_10 : decode cX9_may 10 = .ok (.iconst 0, 1) := by decide +kernel
theorem dX9_may_11 : decode cX9_may 11 = .ok (.aload_n 0, 1) := by decide +kernel
theorem dX9_may_12 : decode cX9_may 12 = .ok (.getfield 102, 3) := by decide +kernel
theorem dX9_may_15 : decode cX9_may 15 = .ok (.iconst 1, 1) := by decide +kernel
theorem dX9_may_16 : decode cX9_may 16 = .ok (.isub, 1) := by decide +kernel
theorem dX9_may_17 : decode cX9_may 17 = .ok (.invokestatic 66, 3) := by decide +kernel
theorem dX9_may_20 : decode cX9_may 20 = .ok (.ifCond .ne 6, 3) := by decide +kernel
theorem dX9_may_23 : decode cX9_may 23 = .ok (.bipush (-2), 2) := by decide +kernel
theorem dX9_may_25 : decode cX9_may 25 = .ok (.ireturn, 1) := by decide +kernel
theorem dX9_may_26 : decode cX9_may 26 = .ok (.aload_n 0, 1) := by decide +kernel
theorem dX9_may_27 : decode cX9_may 27 = .ok (.invokevirtual 116, 3) := by decide +kernel
theorem dX9_may_30 : decode cX9_may 30 = .ok (.ldc 74, 2) := by decide +kernel
theorem dX9_may_32 : decode cX9_may 32 = .ok (.if_icmp .eq 6, 3) := by decide +kernel
theorem dX9_may_35 : decode cX9_may 35 = .ok (.bipush (-5), 2) := by decide +kernel
theorem dX9_may_37 : decode cX9_may 37 = .ok (.ireturn, 1) := by decide +kernel
theorem dX9_may_38 : decode cX9_may 38 = .ok (.aload_n 0, 1) := by decide +kernel
theorem dX9_may_39 : decode cX9_may 39 = .ok (.getfield 13, 3) := by decide +kernel
theorem dX9_may_42 : decode cX9_may 42 = .ok (.iload_n 1, 1) := by decide +kernel
theorem dX9_may_43 : decode cX9_may 43 = .ok (.iaload, 1) := by decide +kernel
theorem dX9_may_44 : decode cX9_may 44 = .ok (.ifCond .eq 14, 3) := by decide +kernel
theorem dX9_may_47 : decode cX9_may 47 = .ok (.aload_n 0, 1) := by decide +kernel
theorem dX9_may_48 : decode cX9_may 48 = .ok (.getfield 25, 3) := by decide +kernel
theorem dX9_may_51 : decode cX9_may 51 = .ok (.iload_n 2, 1) := by decide +kernel
theorem dX9_may_52 : decode cX9_may 52 = .ok (.iaload, 1) := by decide +kernel
theorem dX9_may_53 : decode cX9_may 53 = .ok (.bipush 10, 2) := by decide +kernel
theorem dX9_may_55 : decode cX9_may 55 = .ok (.if_icmp .ge 6, 3) := by decide +kernel
theorem dX9_may_58 : decode cX9_may 58 = .ok (.bipush (-3), 2) := by decide +kernel
theorem dX9_may_60 : decode cX9_may 60 = .ok (.ireturn, 1) := by decide +kernel
theorem dX9_may_61 : decode cX9_may 61 = .ok (.aload_n 0, 1) := by decide +kernel
theorem dX9_may_62 : decode cX9_may 62 = .ok (.iload_n 1, 1) := by decide +kernel
theorem dX9_may_63 : decode cX9_may 63 = .ok (.invokevirtual 171, 3) := by decide +kernel
theorem dX9_may_66 : decode cX9_may 66 = .ok (.aload_n 0, 1) := by decide +kernel
theorem dX9_may_67 : decode cX9_may 67 = .ok (.getfield 46, 3) := by decide +kernel
theorem dX9_may_70 : decode cX9_may 70 = .ok (.iload_n 2, 1) := by decide +kernel
theorem dX9_may_71 : decode cX9_may 71 = .ok (.iaload, 1) := by decide +kernel
theorem dX9_may_72 : decode cX9_may 72 = .ok (.ireturn, 1) := by decide +kernel
theorem dX9_onlyColumn_0 : decode cX9_onlyColumn 0 = .ok (.ldc 74, 2) := by decide +kernel
theorem dX9_onlyColumn_2 : decode cX9_onlyColumn 2 = .ok (.istore_n 1, 1) := by decide +kernel
theorem dX9_onlyColumn_3 : decode cX9_onlyColumn 3 = .ok (.iconst 0, 1) := by decide +kernel
theorem dX9_onlyColumn_4 : decode cX9_onlyColumn 4 = .ok (.istore_n 2, 1) := by decide +kernel
theorem dX9_onlyColumn_5 : decode cX9_onlyColumn 5 = .ok (.iload_n 2, 1) := by decide +kernel
theorem dX9_onlyColumn_6 : decode cX9_onlyColumn 6 = .ok (.aload_n 0, 1) := by decide +kernel
theorem dX9_onlyColumn_7 : decode cX9_onlyColumn 7 = .ok (.getfield 102, 3) := by decide +kernel
theorem dX9_onlyColumn_10 : decode cX9_onlyColumn 10 = .ok (.if_icmp .ge 81, 3) := by decide +kernel
theorem dX9_onlyColumn_13 : decode cX9_onlyColumn 13 = .ok (.aload_n 0, 1) := by decide +kernel
theorem dX9_onlyColumn_14 : decode cX9_onlyColumn 14 = .ok (.getfield 25, 3) := by decide +kernel
theorem dX9_onlyColumn_17 : decode cX9_onlyColumn 17 = .ok (.iload_n 2, 1) := by decide +kernel
theorem dX9_onlyColumn_18 : decode cX9_onlyColumn 18 = .ok (.iaload, 1) := by decide +kernel
theorem dX9_onlyColumn_19 : decode cX9_onlyColumn 19 = .ok (.iconst 1, 1) := by decide +kernel
theorem dX9_onlyColumn_20 : decode cX9_onlyColumn 20 = .ok (.if_icmp .ne 15, 3) := by decide +kernel
theorem dX9_onlyColumn_23 : decode cX9_onlyColumn 23 = .ok (.aload_n 0, 1) := by decide +kernel
theorem dX9_onlyColumn_24 : decode cX9_onlyColumn 24 = .ok (.getfield 22, 3) := by decide +kernel
theorem dX9_onlyColumn_27 : decode cX9_onlyColumn 27 = .ok (.iload_n 2, 1) := by decide +kernel
theorem dX9_onlyColumn_28 : decode cX9_onlyColumn 28 = .ok (.iaload, 1) := by decide +kernel
theorem dX9_onlyColumn_29 : decode cX9_onlyColumn 29 = .ok (.bipush 97, 2) := by decide +kernel
theorem dX9_onlyColumn_31 : decode cX9_onlyColumn 31 = .ok (.isub, 1) := by decide +kernel
theorem dX9_onlyColumn_32 : decode cX9_onlyColumn 32 = .ok (.goto 30, 3) := by decide +kernel
theorem dX9_onlyColumn_35 : decode cX9_onlyColumn 35 = .ok (.aload_n 0, 1) := by decide +kernel
theorem dX9_onlyColumn_36 : decode cX9_onlyColumn 36 = .ok (.getfield 25, 3) := by decide +kernel
theorem dX9_onlyColumn_39 : decode cX9_onlyColumn 39 = .ok (.iload_n 2, 1) := by decide +kernel
theorem dX9_onlyColumn_40 : decode cX9_onlyColumn 40 = .ok (.iaload, 1) := by decide +kernel
theorem dX9_onlyColumn_41 : decode cX9_onlyColumn 41 = .ok (.bipush 15, 2) := by decide +kernel
theorem dX9_onlyColumn_43 : decode cX9_onlyColumn 43 = .ok (.if_icmp .ne 17, 3) := by decide +kernel
theorem dX9_onlyColumn_46 : decode cX9_onlyColumn 46 = .ok (.aload_n 0, 1) := by decide +kernel
theorem dX9_onlyColumn_47 : decode cX9_onlyColumn 47 = .ok (.getfield 22, 3) := by decide +kernel
theorem dX9_onlyColumn_50 : decode cX9_onlyColumn 50 = .ok (.iload_n 2, 1) := by decide +kernel
theorem dX9_onlyColumn_51 : decode cX9_onlyColumn 51 = .ok (.iconst 1, 1) := by decide +kernel
theorem dX9_onlyColumn_52 : decode cX9_onlyColumn 52 = .ok (.iadd, 1) := by decide +kernel
theorem dX9_onlyColumn_53 : decode cX9_onlyColumn 53 = .ok (.iaload, 1) := by decide +kernel
theorem dX9_onlyColumn_54 : decode cX9_onlyColumn 54 = .ok (.bipush 97, 2) := by decide +kernel
theorem dX9_onlyColumn_56 : decode cX9_onlyColumn 56 = .ok (.isub, 1) := by decide +kernel
theorem dX9_onlyColumn_57 : decode cX9_onlyColumn 57 = .ok (.goto 5, 3) := by decide +kernel
theorem dX9_onlyColumn_60 : decode cX9_onlyColumn 60 = .ok (.ldc 74, 2) := by decide +kernel
theorem dX9_onlyColumn_62 : decode cX9_onlyColumn 62 = .ok (.istore_n 3, 1) := by decide +kernel
theorem dX9_onlyColumn_63 : decode cX9_onlyColumn 63 = .ok (.iload_n 3, 1) := by decide +kernel
theorem dX9_onlyColumn_64 : decode cX9_onlyColumn 64 = .ok (.ldc 74, 2) := by decide +kernel
theorem dX9_onlyColumn_66 : decode cX9_onlyColumn 66 = .ok (.if_icmp .eq 19, 3) := by decide +kernel
theorem dX9_onlyColumn_69 : decode cX9_onlyColumn 69 = .ok (.iload_n 1, 1) := by decide +kernel
theorem dX9_onlyColumn_70 : decode cX9_onlyColumn 70 = .ok (.ldc 74, 2) := by decide +kernel
theorem dX9_onlyColumn_72 : decode cX9_onlyColumn 72 = .ok (.if_icmp .eq 11, 3) := by decide +kernel
theorem dX9_onlyColumn_75 : decode cX9_onlyColumn 75 = .ok (.iload_n 1, 1) := by decide +kernel
theorem dX9_onlyColumn_76 : decode cX9_onlyColumn 76 = .ok (.iload_n 3, 1) := by decide +kernel
theorem dX9_onlyColumn_77 : decode cX9_onlyColumn 77 = .ok (.if_icmp .eq 6, 3) := by decide +kernel
theorem dX9_onlyColumn_80 : decode cX9_onlyColumn 80 = .ok (.ldc 74, 2) := by decide +kernel
theorem dX9_onlyColumn_82 : decode cX9_onlyColumn 82 = .ok (.ireturn, 1) := by decide +kernel
theorem dX9_onlyColumn_83 : decode cX9_onlyColumn 83 = .ok (.iload_n 3, 1) := by decide +kernel
theorem dX9_onlyColumn_84 : decode cX9_onlyColumn 84 = .ok (.istore_n 1, 1) := by decide +kernel
theorem dX9_onlyColumn_85 : decode cX9_onlyColumn 85 = .ok (.iinc 2 1, 3) := by decide +kernel
theorem dX9_onlyColumn_88 : decode cX9_onlyColumn 88 = .ok (.goto (-83), 3) := by decide +kernel
theorem dX9_onlyColumn_91 : decode cX9_onlyColumn 91 = .ok (.iload_n 1, 1) := by decide +kernel
theorem dX9_onlyColumn_92 : decode cX9_onlyColumn 92 = .ok (.ireturn, 1) := by decide +kernel
theorem dX9_mayOf_0 : decode cX9_mayOf 0 = .ok (.aload_n 0, 1) := by decide +kernel
theorem dX9_mayOf_1 : decode cX9_mayOf 1 = .ok (.getfield 13, 3) := by decide +kernel
theorem dX9_mayOf_4 : decode cX9_mayOf 4 = .ok (.iload_n 1, 1) := by decide +kernel
theorem dX9_mayOf_5 : decode cX9_mayOf 5 = .ok (.iaload, 1) := by decide +kernel
theorem dX9_mayOf_6 : decode cX9_mayOf 6 = .ok (.ifCond .ne 5, 3) := by decide +kernel
theorem dX9_mayOf_9 : decode cX9_mayOf 9 = .ok (.iconst 0, 1) := by decide +kernel
theorem dX9_mayOf_10 : decode cX9_mayOf 10 = .ok (.ireturn, 1) := by decide +kernel
theorem dX9_mayOf_11 : decode cX9_mayOf 11 = .ok (.aload_n 0, 1) := by decide +kernel
theorem dX9_mayOf_12 : decode cX9_mayOf 12 = .ok (.invokevirtual 174, 3) := by decide +kernel
theorem dX9_mayOf_15 : decode cX9_mayOf 15 = .ok (.istore_n 2, 1) := by decide +kernel
theorem dX9_mayOf_16 : decode cX9_mayOf 16 = .ok (.bipush 12, 2) := by decide +kernel
theorem dX9_mayOf_18 : decode cX9_mayOf 18 = .ok (.iconst 4, 1) := by decide +kernel
theorem dX9_mayOf_19 : decode cX9_mayOf 19 = .ok (.iload_n 1, 1) := by decide +kernel
theorem dX9_mayOf_20 : decode cX9_mayOf 20 = .ok (.imul, 1) := by decide +kernel
theorem dX9_mayOf_21 : decode cX9_mayOf 21 = .ok (.iload_n 2, 1) := by decide +kernel
theorem dX9_mayOf_22 : decode cX9_mayOf 22 = .ok (.iadd, 1) := by decide +kernel
theorem dX9_mayOf_23 : decode cX9_mayOf 23 = .ok (.imul, 1) := by decide +kernel
theorem dX9_mayOf_24 : decode cX9_mayOf 24 = .ok (.istore_n 3, 1) := by decide +kernel
theorem dX9_mayOf_25 : decode cX9_mayOf 25 = .ok (.iload_n 2, 1) := by decide +kernel
theorem dX9_mayOf_26 : decode cX9_mayOf 26 = .ok (.ldc 74, 2) := by decide +kernel
theorem dX9_mayOf_28 : decode cX9_mayOf 28 = .ok (.if_icmp .eq 14, 3) := by decide +kernel
theorem dX9_mayOf_31 : decode cX9_mayOf 31 = .ok (.aload_n 0, 1) := by decide +kernel
theorem dX9_mayOf_32 : decode cX9_mayOf 32 = .ok (.getfield 16, 3) := by decide +kernel
theorem dX9_mayOf_35 : decode cX9_mayOf 35 = .ok (.iload_n 3, 1) := by decide +kernel
theorem dX9_mayOf_36 : decode cX9_mayOf 36 = .ok (.iconst 3, 1) := by decide +kernel
theorem dX9_mayOf_37 : decode cX9_mayOf 37 = .ok (.iadd, 1) := by decide +kernel
theorem dX9_mayOf_38 : decode cX9_mayOf 38 = .ok (.iaload, 1) := by decide +kernel
theorem dX9_mayOf_39 : decode cX9_mayOf 39 = .ok (.ifCond .ge 15, 3) := by decide +kernel
theorem dX9_mayOf_42 : decode cX9_mayOf 42 = .ok (.aload_n 0, 1) := by decide +kernel
theorem dX9_mayOf_43 : decode cX9_mayOf 43 = .ok (.iload_n 1, 1) := by decide +kernel
theorem dX9_mayOf_44 : decode cX9_mayOf 44 = .ok (.invokevirtual 171, 3) := by decide +kernel
theorem dX9_mayOf_47 : decode cX9_mayOf 47 = .ok (.aload_n 0, 1) := by decide +kernel
theorem dX9_mayOf_48 : decode cX9_mayOf 48 = .ok (.getfield 46, 3) := by decide +kernel
theorem dX9_mayOf_51 : decode cX9_mayOf 51 = .ok (.iconst 0, 1) := by decide +kernel
theorem dX9_mayOf_52 : decode cX9_mayOf 52 = .ok (.iaload, 1) := by decide +kernel
theorem dX9_mayOf_53 : decode cX9_mayOf 53 = .ok (.ireturn, 1) := by decide +kernel
theorem dX9_mayOf_54 : decode cX9_mayOf 54 = .ok (.iconst 0, 1) := by decide +kernel
theorem dX9_mayOf_55 : decode cX9_mayOf 55 = .ok (.istore 4, 2) := by decide +kernel
theorem dX9_mayOf_57 : decode cX9_mayOf 57 = .ok (.iconst 0, 1) := by decide +kernel
theorem dX9_mayOf_58 : decode cX9_mayOf 58 = .ok (.istore 5, 2) := by decide +kernel
theorem dX9_mayOf_60 : decode cX9_mayOf 60 = .ok (.iload 5, 2) := by decide +kernel
theorem dX9_mayOf_62 : decode cX9_mayOf 62 = .ok (.aload_n 0, 1) := by decide +kernel
theorem dX9_mayOf_63 : decode cX9_mayOf 63 = .ok (.getfield 16, 3) := by decide +kernel
theorem dX9_mayOf_66 : decode cX9_mayOf 66 = .ok (.iload_n 3, 1) := by decide +kernel
theorem dX9_mayOf_67 : decode cX9_mayOf 67 = .ok (.iconst 3, 1) := by decide +kernel
theorem dX9_mayOf_68 : decode cX9_mayOf 68 = .ok (.iadd, 1) := by decide +kernel
theorem dX9_mayOf_69 : decode cX9_mayOf 69 = .ok (.iaload, 1) := by decide +kernel
theorem dX9_mayOf_70 : decode cX9_mayOf 70 = .ok (.if_icmp .gt 109, 3) := by decide +kernel
theorem dX9_mayOf_73 : decode cX9_mayOf 73 = .ok (.iload 5, 2) := by decide +kernel
theorem dX9_mayOf_75 : decode cX9_mayOf 75 = .ok (.aload_n 0, 1) := by decide +kernel
theorem dX9_mayOf_76 : decode cX9_mayOf 76 = .ok (.getfield 16, 3) := by decide +kernel
theorem dX9_mayOf_79 : decode cX9_mayOf 79 = .ok (.iload_n 3, 1) := by decide +kernel
theorem dX9_mayOf_80 : decode cX9_mayOf 80 = .ok (.iconst 3, 1) := by decide +kernel
theorem dX9_mayOf_81 : decode cX9_mayOf 81 = .ok (.iadd, 1) := by decide +kernel
theorem dX9_mayOf_82 : decode cX9_mayOf 82 = .ok (.iaload, 1) := by decide +kernel
theorem dX9_mayOf_83 : decode cX9_mayOf 83 = .ok (.if_icmp .ne 7, 3) := by decide +kernel
theorem dX9_mayOf_86 : decode cX9_mayOf 86 = .ok (.iconst 1, 1) := by decide +kernel
theorem dX9_mayOf_87 : decode cX9_mayOf 87 = .ok (.goto 4, 3) := by decide +kernel
theorem dX9_mayOf_90 : decode cX9_mayOf 90 = .ok (.iconst 0, 1) := by decide +kernel
theorem dX9_mayOf_91 : decode cX9_mayOf 91 = .ok (.istore 6, 2) := by decide +kernel
theorem dX9_mayOf_93 : decode cX9_mayOf 93 = .ok (.iload 6, 2) := by decide +kernel
theorem dX9_mayOf_95 : decode cX9_mayOf 95 = .ok (.ifCond .eq 17, 3) := by decide +kernel
theorem dX9_mayOf_98 : decode cX9_mayOf 98 = .ok (.aload_n 0, 1) := by decide +kernel
theorem dX9_mayOf_99 : decode cX9_mayOf 99 = .ok (.getfield 16, 3) := by decide +kernel
theorem dX9_mayOf_102 : decode cX9_mayOf 102 = .ok (.iload_n 3, 1) := by decide +kernel
theorem dX9_mayOf_103 : decode cX9_mayOf 103 = .ok (.iconst 2, 1) := by decide +kernel
theorem dX9_mayOf_104 : decode cX9_mayOf 104 = .ok (.iadd, 1) := by decide +kernel
theorem dX9_mayOf_105 : decode cX9_mayOf 105 = .ok (.iaload, 1) := by decide +kernel
theorem dX9_mayOf_106 : decode cX9_mayOf 106 = .ok (.ifCond .le 67, 3) := by decide +kernel
theorem dX9_mayOf_109 : decode cX9_mayOf 109 = .ok (.goto 18, 3) := by decide +kernel
theorem dX9_mayOf_112 : decode cX9_mayOf 112 = .ok (.aload_n 0, 1) := by decide +kernel
theorem dX9_mayOf_113 : decode cX9_mayOf 113 = .ok (.getfield 16, 3) := by decide +kernel
theorem dX9_mayOf_116 : decode cX9_mayOf 116 = .ok (.iload_n 3, 1) := by decide +kernel
theorem dX9_mayOf_117 : decode cX9_mayOf 117 = .ok (.bipush 8, 2) := by decide +kernel
theorem dX9_mayOf_119 : decode cX9_mayOf 119 = .ok (.iadd, 1) := by decide +kernel
theorem dX9_mayOf_120 : decode cX9_mayOf 120 = .ok (.iload 5, 2) := by decide +kernel
theorem dX9_mayOf_122 : decode cX9_mayOf 122 = .ok (.iadd, 1) := by decide +kernel
theorem dX9_mayOf_123 : decode cX9_mayOf 123 = .ok (.iaload, 1) := by decide +kernel
theorem dX9_mayOf_124 : decode cX9_mayOf 124 = .ok (.ifCond .le 49, 3) := by decide +kernel
theorem dX9_mayOf_127 : decode cX9_mayOf 127 = .ok (.aload_n 0, 1) := by decide +kernel
theorem dX9_mayOf_128 : decode cX9_mayOf 128 = .ok (.getfield 43, 3) := by decide +kernel
theorem dX9_mayOf_131 : decode cX9_mayOf 131 = .ok (.iload_n 2, 1) := by decide +kernel
theorem dX9_mayOf_132 : decode cX9_mayOf 132 = .ok (.iload 6, 2) := by decide +kernel
theorem dX9_mayOf_134 : decode cX9_mayOf 134 = .ok (.ifCond .eq 9, 3) := by decide +kernel
theorem dX9_mayOf_137 : decode cX9_mayOf 137 = .ok (.sipush 1000, 3) := by decide +kernel
theorem dX9_mayOf_140 : decode cX9_mayOf 140 = .ok (.goto 14, 3) := by decide +kernel
theorem dX9_mayOf_143 : decode cX9_mayOf 143 = .ok (.aload_n 0, 1) := by decide +kernel
theorem dX9_mayOf_144 : decode cX9_mayOf 144 = .ok (.getfield 16, 3) := by decide +kernel
theorem dX9_mayOf_147 : decode cX9_mayOf 147 = .ok (.iload_n 3, 1) := by decide +kernel
theorem dX9_mayOf_148 : decode cX9_mayOf 148 = .ok (.iconst 4, 1) := by decide +kernel
theorem dX9_mayOf_149 : decode cX9_mayOf 149 = .ok (.iadd, 1) := by decide +kernel
theorem dX9_mayOf_150 : decode cX9_mayOf 150 = .ok (.iload 5, 2) := by decide +kernel
theorem dX9_mayOf_152 : decode cX9_mayOf 152 = .ok (.iadd, 1) := by decide +kernel
theorem dX9_mayOf_153 : decode cX9_mayOf 153 = .ok (.iaload, 1) := by decide +kernel
theorem dX9_mayOf_154 : decode cX9_mayOf 154 = .ok (.iastore, 1) := by decide +kernel
theorem dX9_mayOf_155 : decode cX9_mayOf 155 = .ok (.aload_n 0, 1) := by decide +kernel
theorem dX9_mayOf_156 : decode cX9_mayOf 156 = .ok (.invokevirtual 154, 3) := by decide +kernel
theorem dX9_mayOf_159 : decode cX9_mayOf 159 = .ok (.iload 4, 2) := by decide +kernel
theorem dX9_mayOf_161 : decode cX9_mayOf 161 = .ok (.aload_n 0, 1) := by decide +kernel
theorem dX9_mayOf_162 : decode cX9_mayOf 162 = .ok (.getfield 40, 3) := by decide +kernel
theorem dX9_mayOf_165 : decode cX9_mayOf 165 = .ok (.iconst 0, 1) := by decide +kernel
theorem dX9_mayOf_166 : decode cX9_mayOf 166 = .ok (.iaload, 1) := by decide +kernel
theorem dX9_mayOf_167 : decode cX9_mayOf 167 = .ok (.invokestatic 166, 3) := by decide +kernel
theorem dX9_mayOf_170 : decode cX9_mayOf 170 = .ok (.ior, 1) := by decide +kernel
theorem dX9_mayOf_171 : decode cX9_mayOf 171 = .ok (.istore 4, 2) := by decide +kernel
theorem dX9_mayOf_173 : decode cX9_mayOf 173 = .ok (.iinc 5 1, 3) := by decide +kernel
theorem dX9_mayOf_176 : decode cX9_mayOf 176 = .ok (.goto (-116), 3) := by decide +kernel
theorem dX9_mayOf_179 : decode cX9_mayOf 179 = .ok (.iload 4, 2) := by decide +kernel
theorem dX9_mayOf_181 : decode cX9_mayOf 181 = .ok (.ireturn, 1) := by decide +kernel
theorem dX9_verdictOf_0 : decode cX9_verdictOf 0 = .ok (.aload_n 0, 1) := by decide +kernel
theorem dX9_verdictOf_1 : decode cX9_verdictOf 1 = .ok (.iload_n 1, 1) := by decide +kernel
theorem dX9_verdictOf_2 : decode cX9_verdictOf 2 = .ok (.invokevirtual 177, 3) := by decide +kernel
theorem dX9_verdictOf_5 : decode cX9_verdictOf 5 = .ok (.istore_n 2, 1) := by decide +kernel
theorem dX9_verdictOf_6 : decode cX9_verdictOf 6 = .ok (.iload_n 2, 1) := by decide +kernel
theorem dX9_verdictOf_7 : decode cX9_verdictOf 7 = .ok (.iconst 1, 1) := by decide +kernel
theorem dX9_verdictOf_8 : decode cX9_verdictOf 8 = .ok (.iand, 1) := by decide +kernel
theorem dX9_verdictOf_9 : decode cX9_verdictOf 9 = .ok (.ifCond .ne 7, 3) := by decide +kernel
theorem dX9_verdictOf_12 : decode cX9_verdictOf 12 = .ok (.iconst 0, 1) := by decide +kernel
theorem dX9_verdictOf_13 : decode cX9_verdictOf 13 = .ok (.goto 13, 3) := by decide +kernel
theorem dX9_verdictOf_16 : decode cX9_verdictOf 16 = .ok (.iload_n 2, 1) := by decide +kernel
theorem dX9_verdictOf_17 : decode cX9_verdictOf 17 = .ok (.iconst 1, 1) := by decide +kernel
theorem dX9_verdictOf_18 : decode cX9_verdictOf 18 = .ok (.if_icmp .ne 7, 3) := by decide +kernel
theorem dX9_verdictOf_21 : decode cX9_verdictOf 21 = .ok (.iconst 1, 1) := by decide +kernel
theorem dX9_verdictOf_22 : decode cX9_verdictOf 22 = .ok (.goto 4, 3) := by decide +kernel
theorem dX9_verdictOf_25 : decode cX9_verdictOf 25 = .ok (.iconst 2, 1) := by decide +kernel
theorem dX9_verdictOf_26 : decode cX9_verdictOf 26 = .ok (.ireturn, 1) := by decide +kernel
theorem dX9_verdict_0 : decode cX9_verdict 0 = .ok (.iload_n 1, 1) := by decide +kernel
theorem dX9_verdict_1 : decode cX9_verdict 1 = .ok (.invokestatic 70, 3) := by decide +kernel
theorem dX9_verdict_4 : decode cX9_verdict 4 = .ok (.ifCond .ne 5, 3) := by decide +kernel
theorem dX9_verdict_7 : decode cX9_verdict 7 = .ok (.iconst (-1), 1) := by decide +kernel
theorem dX9_verdict_8 : decode cX9_verdict 8 = .ok (.ireturn, 1) := by decide +kernel
theorem dX9_verdict_9 : decode cX9_verdict 9 = .ok (.iload_n 2, 1) := by decide +kernel
theorem dX9_verdict_10 : decode cX9_verdict 10 = .ok (.iconst 0, 1) := by decide +kernel
theorem dX9_verdict_11 : decode cX9_verdict 11 = .ok (.iconst 1, 1) := by decide +kernel
theorem dX9_verdict_12 : decode cX9_verdict 12 = .ok (.invokestatic 66, 3) := by decide +kernel
theorem dX9_verdict_15 : decode cX9_verdict 15 = .ok (.ifCond .ne 6, 3) := by decide +kernel
theorem dX9_verdict_18 : decode cX9_verdict 18 = .ok (.bipush (-2), 2) := by decide +kernel
theorem dX9_verdict_20 : decode cX9_verdict 20 = .ok (.ireturn, 1) := by decide +kernel
theorem dX9_verdict_21 : decode cX9_verdict 21 = .ok (.aload_n 0, 1) := by decide +kernel
theorem dX9_verdict_22 : decode cX9_verdict 22 = .ok (.invokevirtual 116, 3) := by decide +kernel
theorem dX9_verdict_25 : decode cX9_verdict 25 = .ok (.ldc 74, 2) := by decide +kernel
theorem dX9_verdict_27 : decode cX9_verdict 27 = .ok (.if_icmp .eq 6, 3) := by decide +kernel
theorem dX9_verdict_30 : decode cX9_verdict 30 = .ok (.bipush (-5), 2) := by decide +kernel
theorem dX9_verdict_32 : decode cX9_verdict 32 = .ok (.ireturn, 1) := by decide +kernel
theorem dX9_verdict_33 : decode cX9_verdict 33 = .ok (.iload_n 2, 1) := by decide +kernel
theorem dX9_verdict_34 : decode cX9_verdict 34 = .ok (.ifCond .ne 11, 3) := by decide +kernel
theorem dX9_verdict_37 : decode cX9_verdict 37 = .ok (.aload_n 0, 1) := by decide +kernel
theorem dX9_verdict_38 : decode cX9_verdict 38 = .ok (.iload_n 1, 1) := by decide +kernel
theorem dX9_verdict_39 : decode cX9_verdict 39 = .ok (.invokevirtual 180, 3) := by decide +kernel
theorem dX9_verdict_42 : decode cX9_verdict 42 = .ok (.goto 8, 3) := by decide +kernel
theorem dX9_verdict_45 : decode cX9_verdict 45 = .ok (.aload_n 0, 1) := by decide +kernel
theorem dX9_verdict_46 : decode cX9_verdict 46 = .ok (.iload_n 1, 1) := by decide +kernel
theorem dX9_verdict_47 : decode cX9_verdict 47 = .ok (.invokevirtual 177, 3) := by decide +kernel
theorem dX9_verdict_50 : decode cX9_verdict 50 = .ok (.ireturn, 1) := by decide +kernel
theorem dX9_isLike_0 : decode cX9_isLike 0 = .ok (.iconst 1, 1) := by decide +kernel
theorem dX9_isLike_1 : decode cX9_isLike 1 = .ok (.istore 5, 2) := by decide +kernel
theorem dX9_isLike_3 : decode cX9_isLike 3 = .ok (.iconst 0, 1) := by decide +kernel
theorem dX9_isLike_4 : decode cX9_isLike 4 = .ok (.istore 6, 2) := by decide +kernel
theorem dX9_isLike_6 : decode cX9_isLike 6 = .ok (.iload 6, 2) := by decide +kernel
theorem dX9_isLike_8 : decode cX9_isLike 8 = .ok (.iconst 4, 1) := by decide +kernel
theorem dX9_isLike_9 : decode cX9_isLike 9 = .ok (.if_icmp .ge 41, 3) := by decide +kernel
theorem dX9_isLike_12 : decode cX9_isLike 12 = .ok (.iload 5, 2) := by decide +kernel
theorem dX9_isLike_14 : decode cX9_isLike 14 = .ok (.ifCond .eq 27, 3) := by decide +kernel
theorem dX9_isLike_17 : decode cX9_isLike 17 = .ok (.aload_n 0, 1) := by decide +kernel
theorem dX9_isLike_18 : decode cX9_isLike 18 = .ok (.iload_n 1, 1) := by decide +kernel
theorem dX9_isLike_19 : decode cX9_isLike 19 = .ok (.iload_n 2, 1) := by decide +kernel
theorem dX9_isLike_20 : decode cX9_isLike 20 = .ok (.iload 6, 2) := by decide +kernel
theorem dX9_isLike_22 : decode cX9_isLike 22 = .ok (.invokevirtual 87, 3) := by decide +kernel
theorem dX9_isLike_25 : decode cX9_isLike 25 = .ok (.aload_n 0, 1) := by decide +kernel
theorem dX9_isLike_26 : decode cX9_isLike 26 = .ok (.iload_n 3, 1) := by decide +kernel
theorem dX9_isLike_27 : decode cX9_isLike 27 = .ok (.iload 4, 2) := by decide +kernel
theorem dX9_isLike_29 : decode cX9_isLike 29 = .ok (.iload 6, 2) := by decide +kernel
theorem dX9_isLike_31 : decode cX9_isLike 31 = .ok (.invokevirtual 87, 3) := by decide +kernel
theorem dX9_isLike_34 : decode cX9_isLike 34 = .ok (.if_icmp .ne 7, 3) := by decide +kernel
theorem dX9_isLike_37 : decode cX9_isLike 37 = .ok (.iconst 1, 1) := by decide +kernel
theorem dX9_isLike_38 : decode cX9_isLike 38 = .ok (.goto 4, 3) := by decide +kernel
theorem dX9_isLike_41 : decode cX9_isLike 41 = .ok (.iconst 0, 1) := by decide +kernel
theorem dX9_isLike_42 : decode cX9_isLike 42 = .ok (.istore 5, 2) := by decide +kernel
theorem dX9_isLike_44 : decode cX9_isLike 44 = .ok (.iinc 6 1, 3) := by decide +kernel
theorem dX9_isLike_47 : decode cX9_isLike 47 = .ok (.goto (-41), 3) := by decide +kernel
theorem dX9_isLike_50 : decode cX9_isLike 50 = .ok (.iload 5, 2) := by decide +kernel
theorem dX9_isLike_52 : decode cX9_isLike 52 = .ok (.ireturn, 1) := by decide +kernel
theorem dX9_answer_0 : decode cX9_answer 0 = .ok (.iload_n 1, 1) := by decide +kernel
theorem dX9_answer_1 : decode cX9_answer 1 = .ok (.iconst 0, 1) := by decide +kernel
theorem dX9_answer_2 : decode cX9_answer 2 = .ok (.iconst 5, 1) := by decide +kernel
theorem dX9_answer_3 : decode cX9_answer 3 = .ok (.invokestatic 66, 3) := by decide +kernel
theorem dX9_answer_6 : decode cX9_answer 6 = .ok (.ifCond .ne 6, 3) := by decide +kernel
theorem dX9_answer_9 : decode cX9_answer 9 = .ok (.bipush (-2), 2) := by decide +kernel
theorem dX9_answer_11 : decode cX9_answer 11 = .ok (.ireturn, 1) := by decide +kernel
theorem dX9_answer_12 : decode cX9_answer 12 = .ok (.aload_n 0, 1) := by decide +kernel
theorem dX9_answer_13 : decode cX9_answer 13 = .ok (.invokevirtual 116, 3) := by decide +kernel
theorem dX9_answer_16 : decode cX9_answer 16 = .ok (.ldc 74, 2) := by decide +kernel
theorem dX9_answer_18 : decode cX9_answer 18 = .ok (.if_icmp .eq 6, 3) := by decide +kernel
theorem dX9_answer_21 : decode cX9_answer 21 = .ok (.bipush (-5), 2) := by decide +kernel
theorem dX9_answer_23 : decode cX9_answer 23 = .ok (.ireturn, 1) := by decide +kernel
theorem dX9_answer_24 : decode cX9_answer 24 = .ok (.iconst 0, 1) := by decide +kernel
theorem dX9_answer_25 : decode cX9_answer 25 = .ok (.istore_n 2, 1) := by decide +kernel
theorem dX9_answer_26 : decode cX9_answer 26 = .ok (.iconst 0, 1) := by decide +kernel
theorem dX9_answer_27 : decode cX9_answer 27 = .ok (.istore_n 3, 1) := by decide +kernel
theorem dX9_answer_28 : decode cX9_answer 28 = .ok (.iconst 0, 1) := by decide +kernel
theorem dX9_answer_29 : decode cX9_answer 29 = .ok (.istore 4, 2) := by decide +kernel
theorem dX9_answer_31 : decode cX9_answer 31 = .ok (.iconst 0, 1) := by decide +kernel
theorem dX9_answer_32 : decode cX9_answer 32 = .ok (.istore 5, 2) := by decide +kernel
theorem dX9_answer_34 : decode cX9_answer 34 = .ok (.iconst 0, 1) := by decide +kernel
theorem dX9_answer_35 : decode cX9_answer 35 = .ok (.istore 6, 2) := by decide +kernel
theorem dX9_answer_37 : decode cX9_answer 37 = .ok (.iload 6, 2) := by decide +kernel
theorem dX9_answer_39 : decode cX9_answer 39 = .ok (.bipush 6, 2) := by decide +kernel
theorem dX9_answer_41 : decode cX9_answer 41 = .ok (.if_icmp .ge 190, 3) := by decide +kernel
theorem dX9_answer_44 : decode cX9_answer 44 = .ok (.aload_n 0, 1) := by decide +kernel
theorem dX9_answer_45 : decode cX9_answer 45 = .ok (.iload 6, 2) := by decide +kernel
theorem dX9_answer_47 : decode cX9_answer 47 = .ok (.invokevirtual 180, 3) := by decide +kernel
theorem dX9_answer_50 : decode cX9_answer 50 = .ok (.istore 7, 2) := by decide +kernel
theorem dX9_answer_52 : decode cX9_answer 52 = .ok (.iload 5, 2) := by decide +kernel
theorem dX9_answer_54 : decode cX9_answer 54 = .ok (.iload 7, 2) := by decide +kernel
theorem dX9_answer_56 : decode cX9_answer 56 = .ok (.iload_n 1, 1) := by decide +kernel
theorem dX9_answer_57 : decode cX9_answer 57 = .ok (.iconst 3, 1) := by decide +kernel
theorem dX9_answer_58 : decode cX9_answer 58 = .ok (.isub, 1) := by decide +kernel
theorem dX9_answer_59 : decode cX9_answer 59 = .ok (.if_icmp .ne 10, 3) := by decide +kernel
theorem dX9_answer_62 : decode cX9_answer 62 = .ok (.iconst 1, 1) := by decide +kernel
theorem dX9_answer_63 : decode cX9_answer 63 = .ok (.iload 6, 2) := by decide +kernel
theorem dX9_answer_65 : decode cX9_answer 65 = .ok (.ishl, 1) := by decide +kernel
theorem dX9_answer_66 : decode cX9_answer 66 = .ok (.goto 4, 3) := by decide +kernel
theorem dX9_answer_69 : decode cX9_answer 69 = .ok (.iconst 0, 1) := by decide +kernel
theorem dX9_answer_70 : decode cX9_answer 70 = .ok (.ior, 1) := by decide +kernel
theorem dX9_answer_71 : decode cX9_answer 71 = .ok (.istore 5, 2) := by decide +kernel
theorem dX9_answer_73 : decode cX9_answer 73 = .ok (.iload 4, 2) := by decide +kernel
theorem dX9_answer_75 : decode cX9_answer 75 = .ok (.iload 7, 2) := by decide +kernel
theorem dX9_answer_77 : decode cX9_answer 77 = .ok (.iconst 2, 1) := by decide +kernel
theorem dX9_answer_78 : decode cX9_answer 78 = .ok (.if_icmp .ne 13, 3) := by decide +kernel
theorem dX9_answer_81 : decode cX9_answer 81 = .ok (.aload_n 0, 1) := by decide +kernel
theorem dX9_answer_82 : decode cX9_answer 82 = .ok (.getfield 13, 3) := by decide +kernel
theorem dX9_answer_85 : decode cX9_answer 85 = .ok (.iload 6, 2) := by decide +kernel
theorem dX9_answer_87 : decode cX9_answer 87 = .ok (.iaload, 1) := by decide +kernel
theorem dX9_answer_88 : decode cX9_answer 88 = .ok (.goto 4, 3) := by decide +kernel
theorem dX9_answer_91 : decode cX9_answer 91 = .ok (.iconst 0, 1) := by decide +kernel
theorem dX9_answer_92 : decode cX9_answer 92 = .ok (.iadd, 1) := by decide +kernel
theorem dX9_answer_93 : decode cX9_answer 93 = .ok (.istore 4, 2) := by decide +kernel
theorem dX9_answer_95 : decode cX9_answer 95 = .ok (.iconst 0, 1) := by decide +kernel
theorem dX9_answer_96 : decode cX9_answer 96 = .ok (.istore 8, 2) := by decide +kernel
theorem dX9_answer_98 : decode cX9_answer 98 = .ok (.iload 8, 2) := by decide +kernel
theorem dX9_answer_100 : decode cX9_answer 100 = .ok (.aload_n 0, 1) := by decide +kernel
theorem dX9_answer_101 : decode cX9_answer 101 = .ok (.getfield 13, 3) := by decide +kernel
theorem dX9_answer_104 : decode cX9_answer 104 = .ok (.iload 6, 2) := by decide +kernel
theorem dX9_answer_106 : decode cX9_answer 106 = .ok (.iaload, 1) := by decide +kernel
theorem dX9_answer_107 : decode cX9_answer 107 = .ok (.if_icmp .ge 118, 3) := by decide +kernel
theorem dX9_answer_110 : decode cX9_answer 110 = .ok (.aload_n 0, 1) := by decide +kernel
theorem dX9_answer_111 : decode cX9_answer 111 = .ok (.iload 6, 2) := by decide +kernel
theorem dX9_answer_113 : decode cX9_answer 113 = .ok (.iload 8, 2) := by decide +kernel
theorem dX9_answer_115 : decode cX9_answer 115 = .ok (.invokevirtual 157, 3) := by decide +kernel
theorem dX9_answer_118 : decode cX9_answer 118 = .ok (.iconst 1, 1) := by decide +kernel
theorem dX9_answer_119 : decode cX9_answer 119 = .ok (.if_icmp .ne 100, 3) := by decide +kernel
theorem dX9_answer_122 : decode cX9_answer 122 = .ok (.iinc 2 1, 3) := by decide +kernel
theorem dX9_answer_125 : decode cX9_answer 125 = .ok (.iconst 1, 1) := by decide +kernel
theorem dX9_answer_126 : decode cX9_answer 126 = .ok (.istore 9, 2) := by decide +kernel
theorem dX9_answer_128 : decode cX9_answer 128 = .ok (.iconst 0, 1) := by decide +kernel
theorem dX9_answer_129 : decode cX9_answer 129 = .ok (.istore 10, 2) := by decide +kernel
theorem dX9_answer_131 : decode cX9_answer 131 = .ok (.iload 10, 2) := by decide +kernel
theorem dX9_answer_133 : decode cX9_answer 133 = .ok (.iload 6, 2) := by decide +kernel
theorem dX9_answer_135 : decode cX9_answer 135 = .ok (.if_icmp .gt 71, 3) := by decide +kernel
theorem dX9_answer_138 : decode cX9_answer 138 = .ok (.iconst 0, 1) := by decide +kernel
theorem dX9_answer_139 : decode cX9_answer 139 = .ok (.istore 11, 2) := by decide +kernel
theorem dX9_answer_141 : decode cX9_answer 141 = .ok (.iload 11, 2) := by decide +kernel
theorem dX9_answer_143 : decode cX9_answer 143 = .ok (.aload_n 0, 1) := by decide +kernel
theorem dX9_answer_144 : decode cX9_answer 144 = .ok (.getfield 13, 3) := by decide +kernel
theorem dX9_answer_147 : decode cX9_answer 147 = .ok (.iload 10, 2) := by decide +kernel
theorem dX9_answer_149 : decode cX9_answer 149 = .ok (.iaload, 1) := by decide +kernel
theorem dX9_answer_150 : decode cX9_answer 150 = .ok (.if_icmp .ge 50, 3) := by decide +kernel
theorem dX9_answer_153 : decode cX9_answer 153 = .ok (.iload 10, 2) := by decide +kernel
theorem dX9_answer_155 : decode cX9_answer 155 = .ok (.iload 6, 2) := by decide +kernel
theorem dX9_answer_157 : decode cX9_answer 157 = .ok (.if_icmp .lt 10, 3) := by decide +kernel
theorem dX9_answer_160 : decode cX9_answer 160 = .ok (.iload 11, 2) := by decide +kernel
theorem dX9_answer_162 : decode cX9_answer 162 = .ok (.iload 8, 2) := by decide +kernel
theorem dX9_answer_164 : decode cX9_answer 164 = .ok (.if_icmp .ge 36, 3) := by decide +kernel
theorem dX9_answer_167 : decode cX9_answer 167 = .ok (.iload 9, 2) := by decide +kernel
theorem dX9_answer_169 : decode cX9_answer 169 = .ok (.ifCond .eq 22, 3) := by decide +kernel
theorem dX9_answer_172 : decode cX9_answer 172 = .ok (.aload_n 0, 1) := by decide +kernel
theorem dX9_answer_173 : decode cX9_answer 173 = .ok (.iload 6, 2) := by decide +kernel
theorem dX9_answer_175 : decode cX9_answer 175 = .ok (.iload 8, 2) := by decide +kernel
theorem dX9_answer_177 : decode cX9_answer 177 = .ok (.iload 10, 2) := by decide +kernel
theorem dX9_answer_179 : decode cX9_answer 179 = .ok (.iload 11, 2) := by decide +kernel
theorem dX9_answer_181 : decode cX9_answer 181 = .ok (.invokevirtual 183, 3) := by decide +kernel
theorem dX9_answer_184 : decode cX9_answer 184 = .ok (.ifCond .ne 7, 3) := by decide +kernel
theorem dX9_answer_187 : decode cX9_answer 187 = .ok (.iconst 1, 1) := by decide +kernel
theorem dX9_answer_188 : decode cX9_answer 188 = .ok (.goto 4, 3) := by decide +kernel
theorem dX9_answer_191 : decode cX9_answer 191 = .ok (.iconst 0, 1) := by decide +kernel
theorem dX9_answer_192 : decode cX9_answer 192 = .ok (.istore 9, 2) := by decide +kernel
theorem dX9_answer_194 : decode cX9_answer 194 = .ok (.iinc 11 1, 3) := by decide +kernel
theorem dX9_answer_197 : decode cX9_answer 197 = .ok (.goto (-56), 3) := by decide +kernel
theorem dX9_answer_200 : decode cX9_answer 200 = .ok (.iinc 10 1, 3) := by decide +kernel
theorem dX9_answer_203 : decode cX9_answer 203 = .ok (.goto (-72), 3) := by decide +kernel
theorem dX9_answer_206 : decode cX9_answer 206 = .ok (.iload_n 3, 1) := by decide +kernel
theorem dX9_answer_207 : decode cX9_answer 207 = .ok (.iload 9, 2) := by decide +kernel
theorem dX9_answer_209 : decode cX9_answer 209 = .ok (.ifCond .eq 7, 3) := by decide +kernel
theorem dX9_answer_212 : decode cX9_answer 212 = .ok (.iconst 1, 1) := by decide +kernel
theorem dX9_answer_213 : decode cX9_answer 213 = .ok (.goto 4, 3) := by decide +kernel
theorem dX9_answer_216 : decode cX9_answer 216 = .ok (.iconst 0, 1) := by decide +kernel
theorem dX9_answer_217 : decode cX9_answer 217 = .ok (.iadd, 1) := by decide +kernel
theorem dX9_answer_218 : decode cX9_answer 218 = .ok (.istore_n 3, 1) := by decide +kernel
theorem dX9_answer_219 : decode cX9_answer 219 = .ok (.iinc 8 1, 3) := by decide +kernel
theorem dX9_answer_222 : decode cX9_answer 222 = .ok (.goto (-124), 3) := by decide +kernel
theorem dX9_answer_225 : decode cX9_answer 225 = .ok (.iinc 6 1, 3) := by decide +kernel
theorem dX9_answer_228 : decode cX9_answer 228 = .ok (.goto (-191), 3) := by decide +kernel
theorem dX9_answer_231 : decode cX9_answer 231 = .ok (.iload_n 1, 1) := by decide +kernel
theorem dX9_answer_232 : decode cX9_answer 232 = .ok (.ifCond .ne 7, 3) := by decide +kernel
theorem dX9_answer_235 : decode cX9_answer 235 = .ok (.iload_n 2, 1) := by decide +kernel
theorem dX9_answer_236 : decode cX9_answer 236 = .ok (.goto 24, 3) := by decide +kernel
theorem dX9_answer_239 : decode cX9_answer 239 = .ok (.iload_n 1, 1) := by decide +kernel
theorem dX9_answer_240 : decode cX9_answer 240 = .ok (.iconst 1, 1) := by decide +kernel
theorem dX9_answer_241 : decode cX9_answer 241 = .ok (.if_icmp .ne 7, 3) := by decide +kernel
theorem dX9_answer_244 : decode cX9_answer 244 = .ok (.iload_n 3, 1) := by decide +kernel
theorem dX9_answer_245 : decode cX9_answer 245 = .ok (.goto 15, 3) := by decide +kernel
theorem dX9_answer_248 : decode cX9_answer 248 = .ok (.iload_n 1, 1) := by decide +kernel
theorem dX9_answer_249 : decode cX9_answer 249 = .ok (.iconst 2, 1) := by decide +kernel
theorem dX9_answer_250 : decode cX9_answer 250 = .ok (.if_icmp .ne 8, 3) := by decide +kernel
theorem dX9_answer_253 : decode cX9_answer 253 = .ok (.iload 4, 2) := by decide +kernel
theorem dX9_answer_255 : decode cX9_answer 255 = .ok (.goto 5, 3) := by decide +kernel
theorem dX9_answer_258 : decode cX9_answer 258 = .ok (.iload 5, 2) := by decide +kernel
theorem dX9_answer_260 : decode cX9_answer 260 = .ok (.ireturn, 1) := by decide +kernel
theorem dX9_total_0 : decode cX9_total 0 = .ok (.iload_n 1, 1) := by decide +kernel
theorem dX9_total_1 : decode cX9_total 1 = .ok (.invokestatic 97, 3) := by decide +kernel
theorem dX9_total_4 : decode cX9_total 4 = .ok (.ifCond .ne 6, 3) := by decide +kernel
theorem dX9_total_7 : decode cX9_total 7 = .ok (.ldc 100, 2) := by decide +kernel
theorem dX9_total_9 : decode cX9_total 9 = .ok (.ireturn, 1) := by decide +kernel
theorem dX9_total_10 : decode cX9_total 10 = .ok (.iload_n 2, 1) := by decide +kernel
theorem dX9_total_11 : decode cX9_total 11 = .ok (.iconst 0, 1) := by decide +kernel
theorem dX9_total_12 : decode cX9_total 12 = .ok (.iconst 4, 1) := by decide +kernel
theorem dX9_total_13 : decode cX9_total 13 = .ok (.invokestatic 66, 3) := by decide +kernel
theorem dX9_total_16 : decode cX9_total 16 = .ok (.ifCond .ne 6, 3) := by decide +kernel
theorem dX9_total_19 : decode cX9_total 19 = .ok (.ldc 101, 2) := by decide +kernel
theorem dX9_total_21 : decode cX9_total 21 = .ok (.ireturn, 1) := by decide +kernel
theorem dX9_total_22 : decode cX9_total 22 = .ok (.aload_n 0, 1) := by decide +kernel
theorem dX9_total_23 : decode cX9_total 23 = .ok (.invokevirtual 116, 3) := by decide +kernel
theorem dX9_total_26 : decode cX9_total 26 = .ok (.ldc 74, 2) := by decide +kernel
theorem dX9_total_28 : decode cX9_total 28 = .ok (.if_icmp .eq 6, 3) := by decide +kernel
theorem dX9_total_31 : decode cX9_total 31 = .ok (.ldc 169, 2) := by decide +kernel
theorem dX9_total_33 : decode cX9_total 33 = .ok (.ireturn, 1) := by decide +kernel
theorem dX9_total_34 : decode cX9_total 34 = .ok (.ldc 74, 2) := by decide +kernel
theorem dX9_total_36 : decode cX9_total 36 = .ok (.istore_n 3, 1) := by decide +kernel
theorem dX9_total_37 : decode cX9_total 37 = .ok (.ldc 74, 2) := by decide +kernel
theorem dX9_total_39 : decode cX9_total 39 = .ok (.istore 4, 2) := by decide +kernel
theorem dX9_total_41 : decode cX9_total 41 = .ok (.iconst 0, 1) := by decide +kernel
theorem dX9_total_42 : decode cX9_total 42 = .ok (.istore 5, 2) := by decide +kernel
theorem dX9_total_44 : decode cX9_total 44 = .ok (.iconst 0, 1) := by decide +kernel
theorem dX9_total_45 : decode cX9_total 45 = .ok (.istore 6, 2) := by decide +kernel
theorem dX9_total_47 : decode cX9_total 47 = .ok (.iconst 0, 1) := by decide +kernel
theorem dX9_total_48 : decode cX9_total 48 = .ok (.istore 7, 2) := by decide +kernel
theorem dX9_total_50 : decode cX9_total 50 = .ok (.iconst 0, 1) := by decide +kernel
theorem dX9_total_51 : decode cX9_total 51 = .ok (.istore 8, 2) := by decide +kernel
theorem dX9_total_53 : decode cX9_total 53 = .ok (.iload 8, 2) := by decide +kernel
theorem dX9_total_55 : decode cX9_total 55 = .ok (.bipush 6, 2) := by decide +kernel
theorem dX9_total_57 : decode cX9_total 57 = .ok (.if_icmp .ge 162, 3) := by decide +kernel
theorem dX9_total_60 : decode cX9_total 60 = .ok (.aload_n 0, 1) := by decide +kernel
theorem dX9_total_61 : decode cX9_total 61 = .ok (.iload 8, 2) := by decide +kernel
theorem dX9_total_63 : decode cX9_total 63 = .ok (.invokevirtual 180, 3) := by decide +kernel
theorem dX9_total_66 : decode cX9_total 66 = .ok (.istore 9, 2) := by decide +kernel
theorem dX9_total_68 : decode cX9_total 68 = .ok (.iload 7, 2) := by decide +kernel
theorem dX9_total_70 : decode cX9_total 70 = .ok (.iload 9, 2) := by decide +kernel
theorem dX9_total_72 : decode cX9_total 72 = .ok (.iconst 2, 1) := by decide +kernel
theorem dX9_total_73 : decode cX9_total 73 = .ok (.if_icmp .eq 19, 3) := by decide +kernel
theorem dX9_total_76 : decode cX9_total 76 = .ok (.iload 9, 2) := by decide +kernel
theorem dX9_total_78 : decode cX9_total 78 = .ok (.iconst 1, 1) := by decide +kernel
theorem dX9_total_79 : decode cX9_total 79 = .ok (.if_icmp .ne 23, 3) := by decide +kernel
theorem dX9_total_82 : decode cX9_total 82 = .ok (.aload_n 0, 1) := by decide +kernel
theorem dX9_total_83 : decode cX9_total 83 = .ok (.iload 8, 2) := by decide +kernel
theorem dX9_total_85 : decode cX9_total 85 = .ok (.iload_n 1, 1) := by decide +kernel
theorem dX9_total_86 : decode cX9_total 86 = .ok (.invokevirtual 94, 3) := by decide +kernel
theorem dX9_total_89 : decode cX9_total 89 = .ok (.ifCond .eq 13, 3) := by decide +kernel
theorem dX9_total_92 : decode cX9_total 92 = .ok (.aload_n 0, 1) := by decide +kernel
theorem dX9_total_93 : decode cX9_total 93 = .ok (.getfield 13, 3) := by decide +kernel
theorem dX9_total_96 : decode cX9_total 96 = .ok (.iload 8, 2) := by decide +kernel
theorem dX9_total_98 : decode cX9_total 98 = .ok (.iaload, 1) := by decide +kernel
theorem dX9_total_99 : decode cX9_total 99 = .ok (.goto 4, 3) := by decide +kernel
theorem dX9_total_102 : decode cX9_total 102 = .ok (.iconst 0, 1) := by decide +kernel
theorem dX9_total_103 : decode cX9_total 103 = .ok (.iadd, 1) := by decide +kernel
theorem dX9_total_104 : decode cX9_total 104 = .ok (.istore 7, 2) := by decide +kernel
theorem dX9_total_106 : decode cX9_total 106 = .ok (.iconst 0, 1) := by decide +kernel
theorem dX9_total_107 : decode cX9_total 107 = .ok (.istore 10, 2) := by decide +kernel
theorem dX9_total_109 : decode cX9_total 109 = .ok (.iload 10, 2) := by decide +kernel
theorem dX9_total_111 : decode cX9_total 111 = .ok (.aload_n 0, 1) := by decide +kernel
theorem dX9_total_112 : decode cX9_total 112 = .ok (.getfield 13, 3) := by decide +kernel
theorem dX9_total_115 : decode cX9_total 115 = .ok (.iload 8, 2) := by decide +kernel
theorem dX9_total_117 : decode cX9_total 117 = .ok (.iaload, 1) := by decide +kernel
theorem dX9_total_118 : decode cX9_total 118 = .ok (.if_icmp .ge 95, 3) := by decide +kernel
theorem dX9_total_121 : decode cX9_total 121 = .ok (.aload_n 0, 1) := by decide +kernel
theorem dX9_total_122 : decode cX9_total 122 = .ok (.iload 8, 2) := by decide +kernel
theorem dX9_total_124 : decode cX9_total 124 = .ok (.iload 10, 2) := by decide +kernel
theorem dX9_total_126 : decode cX9_total 126 = .ok (.invokevirtual 157, 3) := by decide +kernel
theorem dX9_total_129 : decode cX9_total 129 = .ok (.iconst 1, 1) := by decide +kernel
theorem dX9_total_130 : decode cX9_total 130 = .ok (.if_icmp .ne 77, 3) := by decide +kernel
theorem dX9_total_133 : decode cX9_total 133 = .ok (.aload_n 0, 1) := by decide +kernel
theorem dX9_total_134 : decode cX9_total 134 = .ok (.iload 8, 2) := by decide +kernel
theorem dX9_total_136 : decode cX9_total 136 = .ok (.iload 10, 2) := by decide +kernel
theorem dX9_total_138 : decode cX9_total 138 = .ok (.iload_n 1, 1) := by decide +kernel
theorem dX9_total_139 : decode cX9_total 139 = .ok (.invokevirtual 87, 3) := by decide +kernel
theorem dX9_total_142 : decode cX9_total 142 = .ok (.istore 11, 2) := by decide +kernel
theorem dX9_total_144 : decode cX9_total 144 = .ok (.iload 11, 2) := by decide +kernel
theorem dX9_total_146 : decode cX9_total 146 = .ok (.sipush 1000, 3) := by decide +kernel
theorem dX9_total_149 : decode cX9_total 149 = .ok (.if_icmp .ne 9, 3) := by decide +kernel
theorem dX9_total_152 : decode cX9_total 152 = .ok (.iinc 6 1, 3) := by decide +kernel
theorem dX9_total_155 : decode cX9_total 155 = .ok (.goto 52, 3) := by decide +kernel
theorem dX9_total_158 : decode cX9_total 158 = .ok (.iload_n 3, 1) := by decide +kernel
theorem dX9_total_159 : decode cX9_total 159 = .ok (.ldc 74, 2) := by decide +kernel
theorem dX9_total_161 : decode cX9_total 161 = .ok (.if_icmp .eq 9, 3) := by decide +kernel
theorem dX9_total_164 : decode cX9_total 164 = .ok (.iload 11, 2) := by decide +kernel
theorem dX9_total_166 : decode cX9_total 166 = .ok (.iload_n 3, 1) := by decide +kernel
theorem dX9_total_167 : decode cX9_total 167 = .ok (.if_icmp .ge 8, 3) := by decide +kernel
theorem dX9_total_170 : decode cX9_total 170 = .ok (.iload 11, 2) := by decide +kernel
theorem dX9_total_172 : decode cX9_total 172 = .ok (.goto 4, 3) := by decide +kernel
theorem dX9_total_175 : decode cX9_total 175 = .ok (.iload_n 3, 1) := by decide +kernel
theorem dX9_total_176 : decode cX9_total 176 = .ok (.istore_n 3, 1) := by decide +kernel
theorem dX9_total_177 : decode cX9_total 177 = .ok (.iload 4, 2) := by decide +kernel
theorem dX9_total_179 : decode cX9_total 179 = .ok (.ldc 74, 2) := by decide +kernel
theorem dX9_total_181 : decode cX9_total 181 = .ok (.if_icmp .eq 10, 3) := by decide +kernel
theorem dX9_total_184 : decode cX9_total 184 = .ok (.iload 11, 2) := by decide +kernel
theorem dX9_total_186 : decode cX9_total 186 = .ok (.iload 4, 2) := by decide +kernel
theorem dX9_total_188 : decode cX9_total 188 = .ok (.if_icmp .le 8, 3) := by decide +kernel
theorem dX9_total_191 : decode cX9_total 191 = .ok (.iload 11, 2) := by decide +kernel
theorem dX9_total_193 : decode cX9_total 193 = .ok (.goto 5, 3) := by decide +kernel
theorem dX9_total_196 : decode cX9_total 196 = .ok (.iload 4, 2) := by decide +kernel
theorem dX9_total_198 : decode cX9_total 198 = .ok (.istore 4, 2) := by decide +kernel
theorem dX9_total_200 : decode cX9_total 200 = .ok (.iload 5, 2) := by decide +kernel
theorem dX9_total_202 : decode cX9_total 202 = .ok (.iload 11, 2) := by decide +kernel
theorem dX9_total_204 : decode cX9_total 204 = .ok (.iadd, 1) := by decide +kernel
theorem dX9_total_205 : decode cX9_total 205 = .ok (.istore 5, 2) := by decide +kernel
theorem dX9_total_207 : decode cX9_total 207 = .ok (.iinc 10 1, 3) := by decide +kernel
theorem dX9_total_210 : decode cX9_total 210 = .ok (.goto (-101), 3) := by decide +kernel
theorem dX9_total_213 : decode cX9_total 213 = .ok (.iinc 8 1, 3) := by decide +kernel
theorem dX9_total_216 : decode cX9_total 216 = .ok (.goto (-163), 3) := by decide +kernel
theorem dX9_total_219 : decode cX9_total 219 = .ok (.iload_n 2, 1) := by decide +kernel
theorem dX9_total_220 : decode cX9_total 220 = .ok (.tableswitch 36 0 2 #[28, 30, 33], 28) := by decide +kernel
theorem dX9_total_248 : decode cX9_total 248 = .ok (.iload_n 3, 1) := by decide +kernel
theorem dX9_total_249 : decode cX9_total 249 = .ok (.ireturn, 1) := by decide +kernel
theorem dX9_total_250 : decode cX9_total 250 = .ok (.iload 4, 2) := by decide +kernel
theorem dX9_total_252 : decode cX9_total 252 = .ok (.ireturn, 1) := by decide +kernel
theorem dX9_total_253 : decode cX9_total 253 = .ok (.iload 5, 2) := by decide +kernel
theorem dX9_total_255 : decode cX9_total 255 = .ok (.ireturn, 1) := by decide +kernel
theorem dX9_total_256 : decode cX9_total 256 = .ok (.iload_n 2, 1) := by decide +kernel
theorem dX9_total_257 : decode cX9_total 257 = .ok (.iconst 3, 1) := by decide +kernel
theorem dX9_total_258 : decode cX9_total 258 = .ok (.if_icmp .ne 8, 3) := by decide +kernel
theorem dX9_total_261 : decode cX9_total 261 = .ok (.iload 6, 2) := by decide +kernel
theorem dX9_total_263 : decode cX9_total 263 = .ok (.goto 5, 3) := by decide +kernel
theorem dX9_total_266 : decode cX9_total 266 = .ok (.iload 7, 2) := by decide +kernel
theorem dX9_total_268 : decode cX9_total 268 = .ok (.ireturn, 1) := by decide +kernel
theorem dX9_image_0 : decode cX9_image 0 = .ok (.iload_n 1, 1) := by decide +kernel
theorem dX9_image_1 : decode cX9_image 1 = .ok (.iconst 0, 1) := by decide +kernel
theorem dX9_image_2 : decode cX9_image 2 = .ok (.iconst 1, 1) := by decide +kernel
theorem dX9_image_3 : decode cX9_image 3 = .ok (.invokestatic 66, 3) := by decide +kernel
theorem dX9_image_6 : decode cX9_image 6 = .ok (.ifCond .ne 6, 3) := by decide +kernel
theorem dX9_image_9 : decode cX9_image 9 = .ok (.bipush (-2), 2) := by decide +kernel
theorem dX9_image_11 : decode cX9_image 11 = .ok (.ireturn, 1) := by decide +kernel
theorem dX9_image_12 : decode cX9_image 12 = .ok (.sipush 500, 3) := by decide +kernel
theorem dX9_image_15 : decode cX9_image 15 = .ok (.iload_n 1, 1) := by decide +kernel
theorem dX9_image_16 : decode cX9_image 16 = .ok (.imul, 1) := by decide +kernel
theorem dX9_image_17 : decode cX9_image 17 = .ok (.istore_n 2, 1) := by decide +kernel
theorem dX9_image_18 : decode cX9_image 18 = .ok (.iconst 0, 1) := by decide +kernel
theorem dX9_image_19 : decode cX9_image 19 = .ok (.istore_n 3, 1) := by decide +kernel
theorem dX9_image_20 : decode cX9_image 20 = .ok (.iload_n 3, 1) := by decide +kernel
theorem dX9_image_21 : decode cX9_image 21 = .ok (.sipush 192, 3) := by decide +kernel
theorem dX9_image_24 : decode cX9_image 24 = .ok (.if_icmp .ge 23, 3) := by decide +kernel
theorem dX9_image_27 : decode cX9_image 27 = .ok (.aload_n 0, 1) := by decide +kernel
theorem dX9_image_28 : decode cX9_image 28 = .ok (.getfield 55, 3) := by decide +kernel
theorem dX9_image_31 : decode cX9_image 31 = .ok (.iload_n 2, 1) := by decide +kernel
theorem dX9_image_32 : decode cX9_image 32 = .ok (.iload_n 3, 1) := by decide +kernel
theorem dX9_image_33 : decode cX9_image 33 = .ok (.iadd, 1) := by decide +kernel
theorem dX9_image_34 : decode cX9_image 34 = .ok (.aload_n 0, 1) := by decide +kernel
theorem dX9_image_35 : decode cX9_image 35 = .ok (.getfield 7, 3) := by decide +kernel
theorem dX9_image_38 : decode cX9_image 38 = .ok (.iload_n 3, 1) := by decide +kernel
theorem dX9_image_39 : decode cX9_image 39 = .ok (.iaload, 1) := by decide +kernel
theorem dX9_image_40 : decode cX9_image 40 = .ok (.iastore, 1) := by decide +kernel
theorem dX9_image_41 : decode cX9_image 41 = .ok (.iinc 3 1, 3) := by decide +kernel
theorem dX9_image_44 : decode cX9_image 44 = .ok (.goto (-24), 3) := by decide +kernel
theorem dX9_image_47 : decode cX9_image 47 = .ok (.iconst 0, 1) := by decide +kernel
theorem dX9_image_48 : decode cX9_image 48 = .ok (.istore_n 3, 1) := by decide +kernel
theorem dX9_image_49 : decode cX9_image 49 = .ok (.iload_n 3, 1) := by decide +kernel
theorem dX9_image_50 : decode cX9_image 50 = .ok (.sipush 288, 3) := by decide +kernel
theorem dX9_image_53 : decode cX9_image 53 = .ok (.if_icmp .ge 27, 3) := by decide +kernel
theorem dX9_image_56 : decode cX9_image 56 = .ok (.aload_n 0, 1) := by decide +kernel
theorem dX9_image_57 : decode cX9_image 57 = .ok (.getfield 55, 3) := by decide +kernel
theorem dX9_image_60 : decode cX9_image 60 = .ok (.iload_n 2, 1) := by decide +kernel
theorem dX9_image_61 : decode cX9_image 61 = .ok (.sipush 192, 3) := by decide +kernel
theorem dX9_image_64 : decode cX9_image 64 = .ok (.iadd, 1) := by decide +kernel
theorem dX9_image_65 : decode cX9_image 65 = .ok (.iload_n 3, 1) := by decide +kernel
theorem dX9_image_66 : decode cX9_image 66 = .ok (.iadd, 1) := by decide +kernel
theorem dX9_image_67 : decode cX9_image 67 = .ok (.aload_n 0, 1) := by decide +kernel
theorem dX9_image_68 : decode cX9_image 68 = .ok (.getfield 16, 3) := by decide +kernel
theorem dX9_image_71 : decode cX9_image 71 = .ok (.iload_n 3, 1) := by decide +kernel
theorem dX9_image_72 : decode cX9_image 72 = .ok (.iaload, 1) := by decide +kernel
theorem dX9_image_73 : decode cX9_image 73 = .ok (.iastore, 1) := by decide +kernel
theorem dX9_image_74 : decode cX9_image 74 = .ok (.iinc 3 1, 3) := by decide +kernel
theorem dX9_image_77 : decode cX9_image 77 = .ok (.goto (-28), 3) := by decide +kernel
theorem dX9_image_80 : decode cX9_image 80 = .ok (.iconst 0, 1) := by decide +kernel
theorem dX9_image_81 : decode cX9_image 81 = .ok (.istore_n 3, 1) := by decide +kernel
theorem dX9_image_82 : decode cX9_image 82 = .ok (.iload_n 3, 1) := by decide +kernel
theorem dX9_image_83 : decode cX9_image 83 = .ok (.bipush 6, 2) := by decide +kernel
theorem dX9_image_85 : decode cX9_image 85 = .ok (.if_icmp .ge 27, 3) := by decide +kernel
theorem dX9_image_88 : decode cX9_image 88 = .ok (.aload_n 0, 1) := by decide +kernel
theorem dX9_image_89 : decode cX9_image 89 = .ok (.getfield 55, 3) := by decide +kernel
theorem dX9_image_92 : decode cX9_image 92 = .ok (.iload_n 2, 1) := by decide +kernel
theorem dX9_image_93 : decode cX9_image 93 = .ok (.sipush 480, 3) := by decide +kernel
theorem dX9_image_96 : decode cX9_image 96 = .ok (.iadd, 1) := by decide +kernel
theorem dX9_image_97 : decode cX9_image 97 = .ok (.iload_n 3, 1) := by decide +kernel
theorem dX9_image_98 : decode cX9_image 98 = .ok (.iadd, 1) := by decide +kernel
theorem dX9_image_99 : decode cX9_image 99 = .ok (.aload_n 0, 1) := by decide +kernel
theorem dX9_image_100 : decode cX9_image 100 = .ok (.getfield 13, 3) := by decide +kernel
theorem dX9_image_103 : decode cX9_image 103 = .ok (.iload_n 3, 1) := by decide +kernel
theorem dX9_image_104 : decode cX9_image 104 = .ok (.iaload, 1) := by decide +kernel
theorem dX9_image_105 : decode cX9_image 105 = .ok (.iastore, 1) := by decide +kernel
theorem dX9_image_106 : decode cX9_image 106 = .ok (.iinc 3 1, 3) := by decide +kernel
theorem dX9_image_109 : decode cX9_image 109 = .ok (.goto (-27), 3) := by decide +kernel
theorem dX9_image_112 : decode cX9_image 112 = .ok (.aload_n 0, 1) := by decide +kernel
theorem dX9_image_113 : decode cX9_image 113 = .ok (.getfield 58, 3) := by decide +kernel
theorem dX9_image_116 : decode cX9_image 116 = .ok (.iload_n 1, 1) := by decide +kernel
theorem dX9_image_117 : decode cX9_image 117 = .ok (.iconst 1, 1) := by decide +kernel
theorem dX9_image_118 : decode cX9_image 118 = .ok (.bastore, 1) := by decide +kernel
theorem dX9_image_119 : decode cX9_image 119 = .ok (.iconst 1, 1) := by decide +kernel
theorem dX9_image_120 : decode cX9_image 120 = .ok (.ireturn, 1) := by decide +kernel
theorem dX9_restore_0 : decode cX9_restore 0 = .ok (.iload_n 1, 1) := by decide +kernel
theorem dX9_restore_1 : decode cX9_restore 1 = .ok (.iconst 0, 1) := by decide +kernel
theorem dX9_restore_2 : decode cX9_restore 2 = .ok (.iconst 1, 1) := by decide +kernel
theorem dX9_restore_3 : decode cX9_restore 3 = .ok (.invokestatic 66, 3) := by decide +kernel
theorem dX9_restore_6 : decode cX9_restore 6 = .ok (.ifCond .ne 6, 3) := by decide +kernel
theorem dX9_restore_9 : decode cX9_restore 9 = .ok (.bipush (-2), 2) := by decide +kernel
theorem dX9_restore_11 : decode cX9_restore 11 = .ok (.ireturn, 1) := by decide +kernel
theorem dX9_restore_12 : decode cX9_restore 12 = .ok (.aload_n 0, 1) := by decide +kernel
theorem dX9_restore_13 : decode cX9_restore 13 = .ok (.getfield 58, 3) := by decide +kernel
theorem dX9_restore_16 : decode cX9_restore 16 = .ok (.iload_n 1, 1) := by decide +kernel
theorem dX9_restore_17 : decode cX9_restore 17 = .ok (.baload, 1) := by decide +kernel
theorem dX9_restore_18 : decode cX9_restore 18 = .ok (.ifCond .ne 6, 3) := by decide +kernel
theorem dX9_restore_21 : decode cX9_restore 21 = .ok (.bipush (-3), 2) := by decide +kernel
theorem dX9_restore_23 : decode cX9_restore 23 = .ok (.ireturn, 1) := by decide +kernel
theorem dX9_restore_24 : decode cX9_restore 24 = .ok (.sipush 500, 3) := by decide +kernel
theorem dX9_restore_27 : decode cX9_restore 27 = .ok (.iload_n 1, 1) := by decide +kernel
theorem dX9_restore_28 : decode cX9_restore 28 = .ok (.imul, 1) := by decide +kernel
theorem dX9_restore_29 : decode cX9_restore 29 = .ok (.istore_n 2, 1) := by decide +kernel
theorem dX9_restore_30 : decode cX9_restore 30 = .ok (.iconst 0, 1) := by decide +kernel
theorem dX9_restore_31 : decode cX9_restore 31 = .ok (.istore_n 3, 1) := by decide +kernel
theorem dX9_restore_32 : decode cX9_restore 32 = .ok (.iload_n 3, 1) := by decide +kernel
theorem dX9_restore_33 : decode cX9_restore 33 = .ok (.sipush 192, 3) := by decide +kernel
theorem dX9_restore_36 : decode cX9_restore 36 = .ok (.if_icmp .ge 23, 3) := by decide +kernel
theorem dX9_restore_39 : decode cX9_restore 39 = .ok (.aload_n 0, 1) := by decide +kernel
theorem dX9_restore_40 : decode cX9_restore 40 = .ok (.getfield 7, 3) := by decide +kernel
theorem dX9_restore_43 : decode cX9_restore 43 = .ok (.iload_n 3, 1) := by decide +kernel
theorem dX9_restore_44 : decode cX9_restore 44 = .ok (.aload_n 0, 1) := by decide +kernel
theorem dX9_restore_45 : decode cX9_restore 45 = .ok (.getfield 55, 3) := by decide +kernel
theorem dX9_restore_48 : decode cX9_restore 48 = .ok (.iload_n 2, 1) := by decide +kernel
theorem dX9_restore_49 : decode cX9_restore 49 = .ok (.iload_n 3, 1) := by decide +kernel
theorem dX9_restore_50 : decode cX9_restore 50 = .ok (.iadd, 1) := by decide +kernel
theorem dX9_restore_51 : decode cX9_restore 51 = .ok (.iaload, 1) := by decide +kernel
theorem dX9_restore_52 : decode cX9_restore 52 = .ok (.iastore, 1) := by decide +kernel
theorem dX9_restore_53 : decode cX9_restore 53 = .ok (.iinc 3 1, 3) := by decide +kernel
theorem dX9_restore_56 : decode cX9_restore 56 = .ok (.goto (-24), 3) := by decide +kernel
theorem dX9_restore_59 : decode cX9_restore 59 = .ok (.iconst 0, 1) := by decide +kernel
theorem dX9_restore_60 : decode cX9_restore 60 = .ok (.istore_n 3, 1) := by decide +kernel
theorem dX9_restore_61 : decode cX9_restore 61 = .ok (.iload_n 3, 1) := by decide +kernel
theorem dX9_restore_62 : decode cX9_restore 62 = .ok (.sipush 288, 3) := by decide +kernel
theorem dX9_restore_65 : decode cX9_restore 65 = .ok (.if_icmp .ge 27, 3) := by decide +kernel
theorem dX9_restore_68 : decode cX9_restore 68 = .ok (.aload_n 0, 1) := by decide +kernel
theorem dX9_restore_69 : decode cX9_restore 69 = .ok (.getfield 16, 3) := by decide +kernel
theorem dX9_restore_72 : decode cX9_restore 72 = .ok (.iload_n 3, 1) := by decide +kernel
theorem dX9_restore_73 : decode cX9_restore 73 = .ok (.aload_n 0, 1) := by decide +kernel
theorem dX9_restore_74 : decode cX9_restore 74 = .ok (.getfield 55, 3) := by decide +kernel
theorem dX9_restore_77 : decode cX9_restore 77 = .ok (.iload_n 2, 1) := by decide +kernel
theorem dX9_restore_78 : decode cX9_restore 78 = .ok (.sipush 192, 3) := by decide +kernel
theorem dX9_restore_81 : decode cX9_restore 81 = .ok (.iadd, 1) := by decide +kernel
theorem dX9_restore_82 : decode cX9_restore 82 = .ok (.iload_n 3, 1) := by decide +kernel
theorem dX9_restore_83 : decode cX9_restore 83 = .ok (.iadd, 1) := by decide +kernel
theorem dX9_restore_84 : decode cX9_restore 84 = .ok (.iaload, 1) := by decide +kernel
theorem dX9_restore_85 : decode cX9_restore 85 = .ok (.iastore, 1) := by decide +kernel
theorem dX9_restore_86 : decode cX9_restore 86 = .ok (.iinc 3 1, 3) := by decide +kernel
theorem dX9_restore_89 : decode cX9_restore 89 = .ok (.goto (-28), 3) := by decide +kernel
theorem dX9_restore_92 : decode cX9_restore 92 = .ok (.iconst 0, 1) := by decide +kernel
theorem dX9_restore_93 : decode cX9_restore 93 = .ok (.istore_n 3, 1) := by decide +kernel
theorem dX9_restore_94 : decode cX9_restore 94 = .ok (.iload_n 3, 1) := by decide +kernel
theorem dX9_restore_95 : decode cX9_restore 95 = .ok (.bipush 6, 2) := by decide +kernel
theorem dX9_restore_97 : decode cX9_restore 97 = .ok (.if_icmp .ge 27, 3) := by decide +kernel
theorem dX9_restore_100 : decode cX9_restore 100 = .ok (.aload_n 0, 1) := by decide +kernel
theorem dX9_restore_101 : decode cX9_restore 101 = .ok (.getfield 13, 3) := by decide +kernel
theorem dX9_restore_104 : decode cX9_restore 104 = .ok (.iload_n 3, 1) := by decide +kernel
theorem dX9_restore_105 : decode cX9_restore 105 = .ok (.aload_n 0, 1) := by decide +kernel
theorem dX9_restore_106 : decode cX9_restore 106 = .ok (.getfield 55, 3) := by decide +kernel
theorem dX9_restore_109 : decode cX9_restore 109 = .ok (.iload_n 2, 1) := by decide +kernel
theorem dX9_restore_110 : decode cX9_restore 110 = .ok (.sipush 480, 3) := by decide +kernel
theorem dX9_restore_113 : decode cX9_restore 113 = .ok (.iadd, 1) := by decide +kernel
theorem dX9_restore_114 : decode cX9_restore 114 = .ok (.iload_n 3, 1) := by decide +kernel
theorem dX9_restore_115 : decode cX9_restore 115 = .ok (.iadd, 1) := by decide +kernel
theorem dX9_restore_116 : decode cX9_restore 116 = .ok (.iaload, 1) := by decide +kernel
theorem dX9_restore_117 : decode cX9_restore 117 = .ok (.iastore, 1) := by decide +kernel
theorem dX9_restore_118 : decode cX9_restore 118 = .ok (.iinc 3 1, 3) := by decide +kernel
theorem dX9_restore_121 : decode cX9_restore 121 = .ok (.goto (-27), 3) := by decide +kernel
theorem dX9_restore_124 : decode cX9_restore 124 = .ok (.iconst 1, 1) := by decide +kernel
theorem dX9_restore_125 : decode cX9_restore 125 = .ok (.ireturn, 1) := by decide +kernel
theorem dX9_told_0 : decode cX9_told 0 = .ok (.iload_n 1, 1) := by decide +kernel
theorem dX9_told_1 : decode cX9_told 1 = .ok (.bipush 20, 2) := by decide +kernel
theorem dX9_told_3 : decode cX9_told 3 = .ok (.if_icmp .lt 99, 3) := by decide +kernel
theorem dX9_told_6 : decode cX9_told 6 = .ok (.iload_n 1, 1) := by decide +kernel
theorem dX9_told_7 : decode cX9_told 7 = .ok (.bipush 20, 2) := by decide +kernel
theorem dX9_told_9 : decode cX9_told 9 = .ok (.isub, 1) := by decide +kernel
theorem dX9_told_10 : decode cX9_told 10 = .ok (.istore_n 2, 1) := by decide +kernel
theorem dX9_told_11 : decode cX9_told 11 = .ok (.iload_n 2, 1) := by decide +kernel
theorem dX9_told_12 : decode cX9_told 12 = .ok (.invokestatic 70, 3) := by decide +kernel
theorem dX9_told_15 : decode cX9_told 15 = .ok (.ifCond .ne 6, 3) := by decide +kernel
theorem dX9_told_18 : decode cX9_told 18 = .ok (.bipush (-2), 2) := by decide +kernel
theorem dX9_told_20 : decode cX9_told 20 = .ok (.ireturn, 1) := by decide +kernel
theorem dX9_told_21 : decode cX9_told 21 = .ok (.iconst 0, 1) := by decide +kernel
theorem dX9_told_22 : decode cX9_told 22 = .ok (.istore_n 3, 1) := by decide +kernel
theorem dX9_told_23 : decode cX9_told 23 = .ok (.iconst 0, 1) := by decide +kernel
theorem dX9_told_24 : decode cX9_told 24 = .ok (.istore 4, 2) := by decide +kernel
theorem dX9_told_26 : decode cX9_told 26 = .ok (.iload 4, 2) := by decide +kernel
theorem dX9_told_28 : decode cX9_told 28 = .ok (.aload_n 0, 1) := by decide +kernel
theorem dX9_told_29 : decode cX9_told 29 = .ok (.getfield 13, 3) := by decide +kernel
theorem dX9_told_32 : decode cX9_told 32 = .ok (.iload_n 2, 1) := by decide +kernel
theorem dX9_told_33 : decode cX9_told 33 = .ok (.iaload, 1) := by decide +kernel
theorem dX9_told_34 : decode cX9_told 34 = .ok (.if_icmp .ge 66, 3) := by decide +kernel
theorem dX9_told_37 : decode cX9_told 37 = .ok (.iconst 1, 1) := by decide +kernel
theorem dX9_told_38 : decode cX9_told 38 = .ok (.istore 5, 2) := by decide +kernel
theorem dX9_told_40 : decode cX9_told 40 = .ok (.iconst 0, 1) := by decide +kernel
theorem dX9_told_41 : decode cX9_told 41 = .ok (.istore 6, 2) := by decide +kernel
theorem dX9_told_43 : decode cX9_told 43 = .ok (.iload 6, 2) := by decide +kernel
theorem dX9_told_45 : decode cX9_told 45 = .ok (.iload 4, 2) := by decide +kernel
theorem dX9_told_47 : decode cX9_told 47 = .ok (.if_icmp .ge 34, 3) := by decide +kernel
theorem dX9_told_50 : decode cX9_told 50 = .ok (.iload 5, 2) := by decide +kernel
theorem dX9_told_52 : decode cX9_told 52 = .ok (.ifCond .eq 20, 3) := by decide +kernel
theorem dX9_told_55 : decode cX9_told 55 = .ok (.aload_n 0, 1) := by decide +kernel
theorem dX9_told_56 : decode cX9_told 56 = .ok (.iload_n 2, 1) := by decide +kernel
theorem dX9_told_57 : decode cX9_told 57 = .ok (.iload 4, 2) := by decide +kernel
theorem dX9_told_59 : decode cX9_told 59 = .ok (.iload_n 2, 1) := by decide +kernel
theorem dX9_told_60 : decode cX9_told 60 = .ok (.iload 6, 2) := by decide +kernel
theorem dX9_told_62 : decode cX9_told 62 = .ok (.invokevirtual 183, 3) := by decide +kernel
theorem dX9_told_65 : decode cX9_told 65 = .ok (.ifCond .ne 7, 3) := by decide +kernel
theorem dX9_told_68 : decode cX9_told 68 = .ok (.iconst 1, 1) := by decide +kernel
theorem dX9_told_69 : decode cX9_told 69 = .ok (.goto 4, 3) := by decide +kernel
theorem dX9_told_72 : decode cX9_told 72 = .ok (.iconst 0, 1) := by decide +kernel
theorem dX9_told_73 : decode cX9_told 73 = .ok (.istore 5, 2) := by decide +kernel
theorem dX9_told_75 : decode cX9_told 75 = .ok (.iinc 6 1, 3) := by decide +kernel
theorem dX9_told_78 : decode cX9_told 78 = .ok (.goto (-35), 3) := by decide +kernel
theorem dX9_told_81 : decode cX9_told 81 = .ok (.iload_n 3, 1) := by decide +kernel
theorem dX9_told_82 : decode cX9_told 82 = .ok (.iload 5, 2) := by decide +kernel
theorem dX9_told_84 : decode cX9_told 84 = .ok (.ifCond .eq 7, 3) := by decide +kernel
theorem dX9_told_87 : decode cX9_told 87 = .ok (.iconst 1, 1) := by decide +kernel
theorem dX9_told_88 : decode cX9_told 88 = .ok (.goto 4, 3) := by decide +kernel
theorem dX9_told_91 : decode cX9_told 91 = .ok (.iconst 0, 1) := by decide +kernel
theorem dX9_told_92 : decode cX9_told 92 = .ok (.iadd, 1) := by decide +kernel
theorem dX9_told_93 : decode cX9_told 93 = .ok (.istore_n 3, 1) := by decide +kernel
theorem dX9_told_94 : decode cX9_told 94 = .ok (.iinc 4 1, 3) := by decide +kernel
theorem dX9_told_97 : decode cX9_told 97 = .ok (.goto (-71), 3) := by decide +kernel
theorem dX9_told_100 : decode cX9_told 100 = .ok (.iload_n 3, 1) := by decide +kernel
theorem dX9_told_101 : decode cX9_told 101 = .ok (.ireturn, 1) := by decide +kernel
theorem dX9_told_102 : decode cX9_told 102 = .ok (.iload_n 1, 1) := by decide +kernel
theorem dX9_told_103 : decode cX9_told 103 = .ok (.bipush 10, 2) := by decide +kernel
theorem dX9_told_105 : decode cX9_told 105 = .ok (.if_icmp .lt 28, 3) := by decide +kernel
theorem dX9_told_108 : decode cX9_told 108 = .ok (.iload_n 1, 1) := by decide +kernel
theorem dX9_told_109 : decode cX9_told 109 = .ok (.bipush 10, 2) := by decide +kernel
theorem dX9_told_111 : decode cX9_told 111 = .ok (.isub, 1) := by decide +kernel
theorem dX9_told_112 : decode cX9_told 112 = .ok (.invokestatic 70, 3) := by decide +kernel
theorem dX9_told_115 : decode cX9_told 115 = .ok (.ifCond .eq 15, 3) := by decide +kernel
theorem dX9_told_118 : decode cX9_told 118 = .ok (.aload_n 0, 1) := by decide +kernel
theorem dX9_told_119 : decode cX9_told 119 = .ok (.getfield 13, 3) := by decide +kernel
theorem dX9_told_122 : decode cX9_told 122 = .ok (.iload_n 1, 1) := by decide +kernel
theorem dX9_told_123 : decode cX9_told 123 = .ok (.bipush 10, 2) := by decide +kernel
theorem dX9_told_125 : decode cX9_told 125 = .ok (.isub, 1) := by decide +kernel
theorem dX9_told_126 : decode cX9_told 126 = .ok (.iaload, 1) := by decide +kernel
theorem dX9_told_127 : decode cX9_told 127 = .ok (.goto 5, 3) := by decide +kernel
theorem dX9_told_130 : decode cX9_told 130 = .ok (.bipush (-2), 2) := by decide +kernel
theorem dX9_told_132 : decode cX9_told 132 = .ok (.ireturn, 1) := by decide +kernel
theorem dX9_told_133 : decode cX9_told 133 = .ok (.iconst 0, 1) := by decide +kernel
theorem dX9_told_134 : decode cX9_told 134 = .ok (.istore_n 2, 1) := by decide +kernel
theorem dX9_told_135 : decode cX9_told 135 = .ok (.iconst 0, 1) := by decide +kernel
theorem dX9_told_136 : decode cX9_told 136 = .ok (.istore_n 3, 1) := by decide +kernel
theorem dX9_told_137 : decode cX9_told 137 = .ok (.iload_n 3, 1) := by decide +kernel
theorem dX9_told_138 : decode cX9_told 138 = .ok (.bipush 6, 2) := by decide +kernel
theorem dX9_told_140 : decode cX9_told 140 = .ok (.if_icmp .ge 18, 3) := by decide +kernel
theorem dX9_told_143 : decode cX9_told 143 = .ok (.iload_n 2, 1) := by decide +kernel
theorem dX9_told_144 : decode cX9_told 144 = .ok (.aload_n 0, 1) := by decide +kernel
theorem dX9_told_145 : decode cX9_told 145 = .ok (.getfield 13, 3) := by decide +kernel
theorem dX9_told_148 : decode cX9_told 148 = .ok (.iload_n 3, 1) := by decide +kernel
theorem dX9_told_149 : decode cX9_told 149 = .ok (.iaload, 1) := by decide +kernel
theorem dX9_told_150 : decode cX9_told 150 = .ok (.iadd, 1) := by decide +kernel
theorem dX9_told_151 : decode cX9_told 151 = .ok (.istore_n 2, 1) := by decide +kernel
theorem dX9_told_152 : decode cX9_told 152 = .ok (.iinc 3 1, 3) := by decide +kernel
theorem dX9_told_155 : decode cX9_told 155 = .ok (.goto (-18), 3) := by decide +kernel
theorem dX9_told_158 : decode cX9_told 158 = .ok (.iload_n 1, 1) := by decide +kernel
theorem dX9_told_159 : decode cX9_told 159 = .ok (.ifCond .ne 10, 3) := by decide +kernel
theorem dX9_told_162 : decode cX9_told 162 = .ok (.aload_n 0, 1) := by decide +kernel
theorem dX9_told_163 : decode cX9_told 163 = .ok (.getfield 102, 3) := by decide +kernel
theorem dX9_told_166 : decode cX9_told 166 = .ok (.goto 14, 3) := by decide +kernel
theorem dX9_told_169 : decode cX9_told 169 = .ok (.iload_n 1, 1) := by decide +kernel
theorem dX9_told_170 : decode cX9_told 170 = .ok (.iconst 1, 1) := by decide +kernel
theorem dX9_told_171 : decode cX9_told 171 = .ok (.if_icmp .ne 7, 3) := by decide +kernel
theorem dX9_told_174 : decode cX9_told 174 = .ok (.iload_n 2, 1) := by decide +kernel
theorem dX9_told_175 : decode cX9_told 175 = .ok (.goto 5, 3) := by decide +kernel
theorem dX9_told_178 : decode cX9_told 178 = .ok (.bipush (-2), 2) := by decide +kernel
theorem dX9_told_180 : decode cX9_told 180 = .ok (.ireturn, 1) := by decide +kernel
end
section
theorem dL_law_0 : decode cL_law 0 = .ok (.new 7, 3) := by decide +kernel
theorem dL_law_3 : decode cL_law 3 = .ok (.dup, 1) := by decide +kernel
theorem dL_law_4 : decode cL_law 4 = .ok (.invokespecial 9, 3) := by decide +kernel
theorem dL_law_7 : decode cL_law 7 = .ok (.astore_n 1, 1) := by decide +kernel
theorem dL_law_8 : decode cL_law 8 = .ok (.new 10, 3) := by decide +kernel
theorem dL_law_11 : decode cL_law 11 = .ok (.dup, 1) := by decide +kernel
theorem dL_law_12 : decode cL_law 12 = .ok (.invokespecial 12, 3) := by decide +kernel
theorem dL_law_15 : decode cL_law 15 = .ok (.astore_n 2, 1) := by decide +kernel
theorem dL_law_16 : decode cL_law 16 = .ok (.iconst 0, 1) := by decide +kernel
theorem dL_law_17 : decode cL_law 17 = .ok (.istore_n 3, 1) := by decide +kernel
theorem dL_law_18 : decode cL_law 18 = .ok (.iload_n 3, 1) := by decide +kernel
theorem dL_law_19 : decode cL_law 19 = .ok (.aload_n 0, 1) := by decide +kernel
theorem dL_law_20 : decode cL_law 20 = .ok (.arraylength, 1) := by decide +kernel
theorem dL_law_21 : decode cL_law 21 = .ok (.bipush 6, 2) := by decide +kernel
theorem dL_law_23 : decode cL_law 23 = .ok (.isub, 1) := by decide +kernel
theorem dL_law_24 : decode cL_law 24 = .ok (.if_icmp .gt 676, 3) := by decide +kernel
theorem dL_law_27 : decode cL_law 27 = .ok (.aload_n 0, 1) := by decide +kernel
theorem dL_law_28 : decode cL_law 28 = .ok (.iload_n 3, 1) := by decide +kernel
theorem dL_law_29 : decode cL_law 29 = .ok (.iaload, 1) := by decide +kernel
theorem dL_law_30 : decode cL_law 30 = .ok (.bipush 31, 2) := by decide +kernel
theorem dL_law_32 : decode cL_law 32 = .ok (.iand, 1) := by decide +kernel
theorem dL_law_33 : decode cL_law 33 = .ok (.tableswitch 661 0 17 #[87, 150, 183, 206, 249, 292, 345, 368, 381, 394, 427, 470, 503, 536, 559, 592, 615, 638], 87) := by decide +kernel
theorem dL_law_120 : decode cL_law 120 = .ok (.aload_n 1, 1) := by decide +kernel
theorem dL_law_121 : decode cL_law 121 = .ok (.aload_n 0, 1) := by decide +kernel
theorem dL_law_122 : decode cL_law 122 = .ok (.iload_n 3, 1) := by decide +kernel
theorem dL_law_123 : decode cL_law 123 = .ok (.iconst 1, 1) := by decide +kernel
theorem dL_law_124 : decode cL_law 124 = .ok (.iadd, 1) := by decide +kernel
theorem dL_law_125 : decode cL_law 125 = .ok (.iaload, 1) := by decide +kernel
theorem dL_law_126 : decode cL_law 126 = .ok (.aload_n 0, 1) := by decide +kernel
theorem dL_law_127 : decode cL_law 127 = .ok (.iload_n 3, 1) := by decide +kernel
theorem dL_law_128 : decode cL_law 128 = .ok (.iconst 2, 1) := by decide +kernel
theorem dL_law_129 : decode cL_law 129 = .ok (.iadd, 1) := by decide +kernel
theorem dL_law_130 : decode cL_law 130 = .ok (.iaload, 1) := by decide +kernel
theorem dL_law_131 : decode cL_law 131 = .ok (.aload_n 0, 1) := by decide +kernel
theorem dL_law_132 : decode cL_law 132 = .ok (.iload_n 3, 1) := by decide +kernel
theorem dL_law_133 : decode cL_law 133 = .ok (.iconst 3, 1) := by decide +kernel
theorem dL_law_134 : decode cL_law 134 = .ok (.iadd, 1) := by decide +kernel
theorem dL_law_135 : decode cL_law 135 = .ok (.iaload, 1) := by decide +kernel
theorem dL_law_136 : decode cL_law 136 = .ok (.aload_n 0, 1) := by decide +kernel
theorem dL_law_137 : decode cL_law 137 = .ok (.iload_n 3, 1) := by decide +kernel
theorem dL_law_138 : decode cL_law 138 = .ok (.iconst 4, 1) := by decide +kernel
theorem dL_law_139 : decode cL_law 139 = .ok (.iadd, 1) := by decide +kernel
theorem dL_law_140 : decode cL_law 140 = .ok (.iaload, 1) := by decide +kernel
theorem dL_law_141 : decode cL_law 141 = .ok (.aload_n 0, 1) := by decide +kernel
theorem dL_law_142 : decode cL_law 142 = .ok (.iload_n 3, 1) := by decide +kernel
theorem dL_law_143 : decode cL_law 143 = .ok (.iconst 5, 1) := by decide +kernel
theorem dL_law_144 : decode cL_law 144 = .ok (.iadd, 1) := by decide +kernel
theorem dL_law_145 : decode cL_law 145 = .ok (.iaload, 1) := by decide +kernel
theorem dL_law_146 : decode cL_law 146 = .ok (.invokevirtual 13, 3) := by decide +kernel
theorem dL_law_149 : decode cL_law 149 = .ok (.aload_n 2, 1) := by decide +kernel
theorem dL_law_150 : decode cL_law 150 = .ok (.aload_n 0, 1) := by decide +kernel
theorem dL_law_151 : decode cL_law 151 = .ok (.iload_n 3, 1) := by decide +kernel
theorem dL_law_152 : decode cL_law 152 = .ok (.iconst 1, 1) := by decide +kernel
theorem dL_law_153 : decode cL_law 153 = .ok (.iadd, 1) := by decide +kernel
theorem dL_law_154 : decode cL_law 154 = .ok (.iaload, 1) := by decide +kernel
theorem dL_law_155 : decode cL_law 155 = .ok (.aload_n 0, 1) := by decide +kernel
theorem dL_law_156 : decode cL_law 156 = .ok (.iload_n 3, 1) := by decide +kernel
theorem dL_law_157 : decode cL_law 157 = .ok (.iconst 2, 1) := by decide +kernel
theorem dL_law_158 : decode cL_law 158 = .ok (.iadd, 1) := by decide +kernel
theorem dL_law_159 : decode cL_law 159 = .ok (.iaload, 1) := by decide +kernel
theorem dL_law_160 : decode cL_law 160 = .ok (.aload_n 0, 1) := by decide +kernel
theorem dL_law_161 : decode cL_law 161 = .ok (.iload_n 3, 1) := by decide +kernel
theorem dL_law_162 : decode cL_law 162 = .ok (.iconst 3, 1) := by decide +kernel
theorem dL_law_163 : decode cL_law 163 = .ok (.iadd, 1) := by decide +kernel
theorem dL_law_164 : decode cL_law 164 = .ok (.iaload, 1) := by decide +kernel
theorem dL_law_165 : decode cL_law 165 = .ok (.aload_n 0, 1) := by decide +kernel
theorem dL_law_166 : decode cL_law 166 = .ok (.iload_n 3, 1) := by decide +kernel
theorem dL_law_167 : decode cL_law 167 = .ok (.iconst 4, 1) := by decide +kernel
theorem dL_law_168 : decode cL_law 168 = .ok (.iadd, 1) := by decide +kernel
theorem dL_law_169 : decode cL_law 169 = .ok (.iaload, 1) := by decide +kernel
theorem dL_law_170 : decode cL_law 170 = .ok (.aload_n 0, 1) := by decide +kernel
theorem dL_law_171 : decode cL_law 171 = .ok (.iload_n 3, 1) := by decide +kernel
theorem dL_law_172 : decode cL_law 172 = .ok (.iconst 5, 1) := by decide +kernel
theorem dL_law_173 : decode cL_law 173 = .ok (.iadd, 1) := by decide +kernel
theorem dL_law_174 : decode cL_law 174 = .ok (.iaload, 1) := by decide +kernel
theorem dL_law_175 : decode cL_law 175 = .ok (.invokevirtual 17, 3) := by decide +kernel
theorem dL_law_178 : decode cL_law 178 = .ok (.if_icmp .eq 516, 3) := by decide +kernel
theorem dL_law_181 : decode cL_law 181 = .ok (.iconst 0, 1) := by decide +kernel
theorem dL_law_182 : decode cL_law 182 = .ok (.ireturn, 1) := by decide +kernel
theorem dL_law_183 : decode cL_law 183 = .ok (.aload_n 1, 1) := by decide +kernel
theorem dL_law_184 : decode cL_law 184 = .ok (.aload_n 0, 1) := by decide +kernel
theorem dL_law_185 : decode cL_law 185 = .ok (.iload_n 3, 1) := by decide +kernel
theorem dL_law_186 : decode cL_law 186 = .ok (.iconst 1, 1) := by decide +kernel
theorem dL_law_187 : decode cL_law 187 = .ok (.iadd, 1) := by decide +kernel
theorem dL_law_188 : decode cL_law 188 = .ok (.iaload, 1) := by decide +kernel
theorem dL_law_189 : decode cL_law 189 = .ok (.aload_n 0, 1) := by decide +kernel
theorem dL_law_190 : decode cL_law 190 = .ok (.iload_n 3, 1) := by decide +kernel
theorem dL_law_191 : decode cL_law 191 = .ok (.iconst 2, 1) := by decide +kernel
theorem dL_law_192 : decode cL_law 192 = .ok (.iadd, 1) := by decide +kernel
theorem dL_law_193 : decode cL_law 193 = .ok (.iaload, 1) := by decide +kernel
theorem dL_law_194 : decode cL_law 194 = .ok (.invokevirtual 18, 3) := by decide +kernel
theorem dL_law_197 : decode cL_law 197 = .ok (.aload_n 2, 1) := by decide +kernel
theorem dL_law_198 : decode cL_law 198 = .ok (.aload_n 0, 1) := by decide +kernel
theorem dL_law_199 : decode cL_law 199 = .ok (.iload_n 3, 1) := by decide +kernel
theorem dL_law_200 : decode cL_law 200 = .ok (.iconst 1, 1) := by decide +kernel
theorem dL_law_201 : decode cL_law 201 = .ok (.iadd, 1) := by decide +kernel
theorem dL_law_202 : decode cL_law 202 = .ok (.iaload, 1) := by decide +kernel
theorem dL_law_203 : decode cL_law 203 = .ok (.aload_n 0, 1) := by decide +kernel
theorem dL_law_204 : decode cL_law 204 = .ok (.iload_n 3, 1) := by decide +kernel
theorem dL_law_205 : decode cL_law 205 = .ok (.iconst 2, 1) := by decide +kernel
theorem dL_law_206 : decode cL_law 206 = .ok (.iadd, 1) := by decide +kernel
theorem dL_law_207 : decode cL_law 207 = .ok (.iaload, 1) := by decide +kernel
theorem dL_law_208 : decode cL_law 208 = .ok (.invokevirtual 22, 3) := by decide +kernel
theorem dL_law_211 : decode cL_law 211 = .ok (.if_icmp .eq 483, 3) := by decide +kernel
theorem dL_law_214 : decode cL_law 214 = .ok (.iconst 0, 1) := by decide +kernel
theorem dL_law_215 : decode cL_law 215 = .ok (.ireturn, 1) := by decide +kernel
theorem dL_law_216 : decode cL_law 216 = .ok (.aload_n 1, 1) := by decide +kernel
theorem dL_law_217 : decode cL_law 217 = .ok (.aload_n 0, 1) := by decide +kernel
theorem dL_law_218 : decode cL_law 218 = .ok (.iload_n 3, 1) := by decide +kernel
theorem dL_law_219 : decode cL_law 219 = .ok (.iconst 1, 1) := by decide +kernel
theorem dL_law_220 : decode cL_law 220 = .ok (.iadd, 1) := by decide +kernel
theorem dL_law_221 : decode cL_law 221 = .ok (.iaload, 1) := by decide +kernel
theorem dL_law_222 : decode cL_law 222 = .ok (.invokevirtual 23, 3) := by decide +kernel
theorem dL_law_225 : decode cL_law 225 = .ok (.aload_n 2, 1) := by decide +kernel
theorem dL_law_226 : decode cL_law 226 = .ok (.aload_n 0, 1) := by decide +kernel
theorem dL_law_227 : decode cL_law 227 = .ok (.iload_n 3, 1) := by decide +kernel
theorem dL_law_228 : decode cL_law 228 = .ok (.iconst 1, 1) := by decide +kernel
theorem dL_law_229 : decode cL_law 229 = .ok (.iadd, 1) := by decide +kernel
theorem dL_law_230 : decode cL_law 230 = .ok (.iaload, 1) := by decide +kernel
theorem dL_law_231 : decode cL_law 231 = .ok (.invokevirtual 27, 3) := by decide +kernel
theorem dL_law_234 : decode cL_law 234 = .ok (.if_icmp .eq 460, 3) := by decide +kernel
theorem dL_law_237 : decode cL_law 237 = .ok (.iconst 0, 1) := by decide +kernel
theorem dL_law_238 : decode cL_law 238 = .ok (.ireturn, 1) := by decide +kernel
theorem dL_law_239 : decode cL_law 239 = .ok (.aload_n 1, 1) := by decide +kernel
theorem dL_law_240 : decode cL_law 240 = .ok (.aload_n 0, 1) := by decide +kernel
theorem dL_law_241 : decode cL_law 241 = .ok (.iload_n 3, 1) := by decide +kernel
theorem dL_law_242 : decode cL_law 242 = .ok (.iconst 1, 1) := by decide +kernel
theorem dL_law_243 : decode cL_law 243 = .ok (.iadd, 1) := by decide +kernel
theorem dL_law_244 : decode cL_law 244 = .ok (.iaload, 1) := by decide +kernel
theorem dL_law_245 : decode cL_law 245 = .ok (.aload_n 0, 1) := by decide +kernel
theorem dL_law_246 : decode cL_law 246 = .ok (.iload_n 3, 1) := by decide +kernel
theorem dL_law_247 : decode cL_law 247 = .ok (.iconst 2, 1) := by decide +kernel
theorem dL_law_248 : decode cL_law 248 = .ok (.iadd, 1) := by decide +kernel
theorem dL_law_249 : decode cL_law 249 = .ok (.iaload, 1) := by decide +kernel
theorem dL_law_250 : decode cL_law 250 = .ok (.aload_n 0, 1) := by decide +kernel
theorem dL_law_251 : decode cL_law 251 = .ok (.iload_n 3, 1) := by decide +kernel
theorem dL_law_252 : decode cL_law 252 = .ok (.iconst 3, 1) := by decide +kernel
theorem dL_law_253 : decode cL_law 253 = .ok (.iadd, 1) := by decide +kernel
theorem dL_law_254 : decode cL_law 254 = .ok (.iaload, 1) := by decide +kernel
theorem dL_law_255 : decode cL_law 255 = .ok (.invokevirtual 28, 3) := by decide +kernel
theorem dL_law_258 : decode cL_law 258 = .ok (.aload_n 2, 1) := by decide +kernel
theorem dL_law_259 : decode cL_law 259 = .ok (.aload_n 0, 1) := by decide +kernel
theorem dL_law_260 : decode cL_law 260 = .ok (.iload_n 3, 1) := by decide +kernel
theorem dL_law_261 : decode cL_law 261 = .ok (.iconst 1, 1) := by decide +kernel
theorem dL_law_262 : decode cL_law 262 = .ok (.iadd, 1) := by decide +kernel
theorem dL_law_263 : decode cL_law 263 = .ok (.iaload, 1) := by decide +kernel
theorem dL_law_264 : decode cL_law 264 = .ok (.aload_n 0, 1) := by decide +kernel
theorem dL_law_265 : decode cL_law 265 = .ok (.iload_n 3, 1) := by decide +kernel
theorem dL_law_266 : decode cL_law 266 = .ok (.iconst 2, 1) := by decide +kernel
theorem dL_law_267 : decode cL_law 267 = .ok (.iadd, 1) := by decide +kernel
theorem dL_law_268 : decode cL_law 268 = .ok (.iaload, 1) := by decide +kernel
theorem dL_law_269 : decode cL_law 269 = .ok (.aload_n 0, 1) := by decide +kernel
theorem dL_law_270 : decode cL_law 270 = .ok (.iload_n 3, 1) := by decide +kernel
theorem dL_law_271 : decode cL_law 271 = .ok (.iconst 3, 1) := by decide +kernel
theorem dL_law_272 : decode cL_law 272 = .ok (.iadd, 1) := by decide +kernel
theorem dL_law_273 : decode cL_law 273 = .ok (.iaload, 1) := by decide +kernel
theorem dL_law_274 : decode cL_law 274 = .ok (.invokevirtual 32, 3) := by decide +kernel
theorem dL_law_277 : decode cL_law 277 = .ok (.if_icmp .eq 417, 3) := by decide +kernel
theorem dL_law_280 : decode cL_law 280 = .ok (.iconst 0, 1) := by decide +kernel
theorem dL_law_281 : decode cL_law 281 = .ok (.ireturn, 1) := by decide +kernel
theorem dL_law_282 : decode cL_law 282 = .ok (.aload_n 1, 1) := by decide +kernel
theorem dL_law_283 : decode cL_law 283 = .ok (.aload_n 0, 1) := by decide +kernel
theorem dL_law_284 : decode cL_law 284 = .ok (.iload_n 3, 1) := by decide +kernel
theorem dL_law_285 : decode cL_law 285 = .ok (.iconst 1, 1) := by decide +kernel
theorem dL_law_286 : decode cL_law 286 = .ok (.iadd, 1) := by decide +kernel
theorem dL_law_287 : decode cL_law 287 = .ok (.iaload, 1) := by decide +kernel
theorem dL_law_288 : decode cL_law 288 = .ok (.aload_n 0, 1) := by decide +kernel
theorem dL_law_289 : decode cL_law 289 = .ok (.iload_n 3, 1) := by decide +kernel
theorem dL_law_290 : decode cL_law 290 = .ok (.iconst 2, 1) := by decide +kernel
theorem dL_law_291 : decode cL_law 291 = .ok (.iadd, 1) := by decide +kernel
theorem dL_law_292 : decode cL_law 292 = .ok (.iaload, 1) := by decide +kernel
theorem dL_law_293 : decode cL_law 293 = .ok (.aload_n 0, 1) := by decide +kernel
theorem dL_law_294 : decode cL_law 294 = .ok (.iload_n 3, 1) := by decide +kernel
theorem dL_law_295 : decode cL_law 295 = .ok (.iconst 3, 1) := by decide +kernel
theorem dL_law_296 : decode cL_law 296 = .ok (.iadd, 1) := by decide +kernel
theorem dL_law_297 : decode cL_law 297 = .ok (.iaload, 1) := by decide +kernel
theorem dL_law_298 : decode cL_law 298 = .ok (.invokevirtual 33, 3) := by decide +kernel
theorem dL_law_301 : decode cL_law 301 = .ok (.aload_n 2, 1) := by decide +kernel
theorem dL_law_302 : decode cL_law 302 = .ok (.aload_n 0, 1) := by decide +kernel
theorem dL_law_303 : decode cL_law 303 = .ok (.iload_n 3, 1) := by decide +kernel
theorem dL_law_304 : decode cL_law 304 = .ok (.iconst 1, 1) := by decide +kernel
theorem dL_law_305 : decode cL_law 305 = .ok (.iadd, 1) := by decide +kernel
theorem dL_law_306 : decode cL_law 306 = .ok (.iaload, 1) := by decide +kernel
theorem dL_law_307 : decode cL_law 307 = .ok (.aload_n 0, 1) := by decide +kernel
theorem dL_law_308 : decode cL_law 308 = .ok (.iload_n 3, 1) := by decide +kernel
theorem dL_law_309 : decode cL_law 309 = .ok (.iconst 2, 1) := by decide +kernel
theorem dL_law_310 : decode cL_law 310 = .ok (.iadd, 1) := by decide +kernel
theorem dL_law_311 : decode cL_law 311 = .ok (.iaload, 1) := by decide +kernel
theorem dL_law_312 : decode cL_law 312 = .ok (.aload_n 0, 1) := by decide +kernel
theorem dL_law_313 : decode cL_law 313 = .ok (.iload_n 3, 1) := by decide +kernel
theorem dL_law_314 : decode cL_law 314 = .ok (.iconst 3, 1) := by decide +kernel
theorem dL_law_315 : decode cL_law 315 = .ok (.iadd, 1) := by decide +kernel
theorem dL_law_316 : decode cL_law 316 = .ok (.iaload, 1) := by decide +kernel
theorem dL_law_317 : decode cL_law 317 = .ok (.invokevirtual 36, 3) := by decide +kernel
theorem dL_law_320 : decode cL_law 320 = .ok (.if_icmp .eq 374, 3) := by decide +kernel
theorem dL_law_323 : decode cL_law 323 = .ok (.iconst 0, 1) := by decide +kernel
theorem dL_law_324 : decode cL_law 324 = .ok (.ireturn, 1) := by decide +kernel
theorem dL_law_325 : decode cL_law 325 = .ok (.aload_n 1, 1) := by decide +kernel
theorem dL_law_326 : decode cL_law 326 = .ok (.aload_n 0, 1) := by decide +kernel
theorem dL_law_327 : decode cL_law 327 = .ok (.iload_n 3, 1) := by decide +kernel
theorem dL_law_328 : decode cL_law 328 = .ok (.iconst 1, 1) := by decide +kernel
theorem dL_law_329 : decode cL_law 329 = .ok (.iadd, 1) := by decide +kernel
theorem dL_law_330 : decode cL_law 330 = .ok (.iaload, 1) := by decide +kernel
theorem dL_law_331 : decode cL_law 331 = .ok (.aload_n 0, 1) := by decide +kernel
theorem dL_law_332 : decode cL_law 332 = .ok (.iload_n 3, 1) := by decide +kernel
theorem dL_law_333 : decode cL_law 333 = .ok (.iconst 2, 1) := by decide +kernel
theorem dL_law_334 : decode cL_law 334 = .ok (.iadd, 1) := by decide +kernel
theorem dL_law_335 : decode cL_law 335 = .ok (.iaload, 1) := by decide +kernel
theorem dL_law_336 : decode cL_law 336 = .ok (.aload_n 0, 1) := by decide +kernel
theorem dL_law_337 : decode cL_law 337 = .ok (.iload_n 3, 1) := by decide +kernel
theorem dL_law_338 : decode cL_law 338 = .ok (.iconst 3, 1) := by decide +kernel
theorem dL_law_339 : decode cL_law 339 = .ok (.iadd, 1) := by decide +kernel
theorem dL_law_340 : decode cL_law 340 = .ok (.iaload, 1) := by decide +kernel
theorem dL_law_341 : decode cL_law 341 = .ok (.aload_n 0, 1) := by decide +kernel
theorem dL_law_342 : decode cL_law 342 = .ok (.iload_n 3, 1) := by decide +kernel
theorem dL_law_343 : decode cL_law 343 = .ok (.iconst 4, 1) := by decide +kernel
theorem dL_law_344 : decode cL_law 344 = .ok (.iadd, 1) := by decide +kernel
theorem dL_law_345 : decode cL_law 345 = .ok (.iaload, 1) := by decide +kernel
theorem dL_law_346 : decode cL_law 346 = .ok (.invokevirtual 37, 3) := by decide +kernel
theorem dL_law_349 : decode cL_law 349 = .ok (.aload_n 2, 1) := by decide +kernel
theorem dL_law_350 : decode cL_law 350 = .ok (.aload_n 0, 1) := by decide +kernel
theorem dL_law_351 : decode cL_law 351 = .ok (.iload_n 3, 1) := by decide +kernel
theorem dL_law_352 : decode cL_law 352 = .ok (.iconst 1, 1) := by decide +kernel
theorem dL_law_353 : decode cL_law 353 = .ok (.iadd, 1) := by decide +kernel
theorem dL_law_354 : decode cL_law 354 = .ok (.iaload, 1) := by decide +kernel
theorem dL_law_355 : decode cL_law 355 = .ok (.aload_n 0, 1) := by decide +kernel
theorem dL_law_356 : decode cL_law 356 = .ok (.iload_n 3, 1) := by decide +kernel
theorem dL_law_357 : decode cL_law 357 = .ok (.iconst 2, 1) := by decide +kernel
theorem dL_law_358 : decode cL_law 358 = .ok (.iadd, 1) := by decide +kernel
theorem dL_law_359 : decode cL_law 359 = .ok (.iaload, 1) := by decide +kernel
theorem dL_law_360 : decode cL_law 360 = .ok (.aload_n 0, 1) := by decide +kernel
theorem dL_law_361 : decode cL_law 361 = .ok (.iload_n 3, 1) := by decide +kernel
theorem dL_law_362 : decode cL_law 362 = .ok (.iconst 3, 1) := by decide +kernel
theorem dL_law_363 : decode cL_law 363 = .ok (.iadd, 1) := by decide +kernel
theorem dL_law_364 : decode cL_law 364 = .ok (.iaload, 1) := by decide +kernel
theorem dL_law_365 : decode cL_law 365 = .ok (.aload_n 0, 1) := by decide +kernel
theorem dL_law_366 : decode cL_law 366 = .ok (.iload_n 3, 1) := by decide +kernel
theorem dL_law_367 : decode cL_law 367 = .ok (.iconst 4, 1) := by decide +kernel
theorem dL_law_368 : decode cL_law 368 = .ok (.iadd, 1) := by decide +kernel
theorem dL_law_369 : decode cL_law 369 = .ok (.iaload, 1) := by decide +kernel
theorem dL_law_370 : decode cL_law 370 = .ok (.invokevirtual 41, 3) := by decide +kernel
theorem dL_law_373 : decode cL_law 373 = .ok (.if_icmp .eq 321, 3) := by decide +kernel
theorem dL_law_376 : decode cL_law 376 = .ok (.iconst 0, 1) := by decide +kernel
theorem dL_law_377 : decode cL_law 377 = .ok (.ireturn, 1) := by decide +kernel
theorem dL_law_378 : decode cL_law 378 = .ok (.aload_n 1, 1) := by decide +kernel
theorem dL_law_379 : decode cL_law 379 = .ok (.aload_n 0, 1) := by decide +kernel
theorem dL_law_380 : decode cL_law 380 = .ok (.iload_n 3, 1) := by decide +kernel
theorem dL_law_381 : decode cL_law 381 = .ok (.iconst 1, 1) := by decide +kernel
theorem dL_law_382 : decode cL_law 382 = .ok (.iadd, 1) := by decide +kernel
theorem dL_law_383 : decode cL_law 383 = .ok (.iaload, 1) := by decide +kernel
theorem dL_law_384 : decode cL_law 384 = .ok (.invokevirtual 42, 3) := by decide +kernel
theorem dL_law_387 : decode cL_law 387 = .ok (.aload_n 2, 1) := by decide +kernel
theorem dL_law_388 : decode cL_law 388 = .ok (.aload_n 0, 1) := by decide +kernel
theorem dL_law_389 : decode cL_law 389 = .ok (.iload_n 3, 1) := by decide +kernel
theorem dL_law_390 : decode cL_law 390 = .ok (.iconst 1, 1) := by decide +kernel
theorem dL_law_391 : decode cL_law 391 = .ok (.iadd, 1) := by decide +kernel
theorem dL_law_392 : decode cL_law 392 = .ok (.iaload, 1) := by decide +kernel
theorem dL_law_393 : decode cL_law 393 = .ok (.invokevirtual 45, 3) := by decide +kernel
theorem dL_law_396 : decode cL_law 396 = .ok (.if_icmp .eq 298, 3) := by decide +kernel
theorem dL_law_399 : decode cL_law 399 = .ok (.iconst 0, 1) := by decide +kernel
theorem dL_law_400 : decode cL_law 400 = .ok (.ireturn, 1) := by decide +kernel
theorem dL_law_401 : decode cL_law 401 = .ok (.aload_n 1, 1) := by decide +kernel
theorem dL_law_402 : decode cL_law 402 = .ok (.invokevirtual 46, 3) := by decide +kernel
theorem dL_law_405 : decode cL_law 405 = .ok (.aload_n 2, 1) := by decide +kernel
theorem dL_law_406 : decode cL_law 406 = .ok (.invokevirtual 50, 3) := by decide +kernel
theorem dL_law_409 : decode cL_law 409 = .ok (.if_icmp .eq 285, 3) := by decide +kernel
theorem dL_law_412 : decode cL_law 412 = .ok (.iconst 0, 1) := by decide +kernel
theorem dL_law_413 : decode cL_law 413 = .ok (.ireturn, 1) := by decide +kernel
theorem dL_law_414 : decode cL_law 414 = .ok (.aload_n 1, 1) := by decide +kernel
theorem dL_law_415 : decode cL_law 415 = .ok (.invokevirtual 51, 3) := by decide +kernel
theorem dL_law_418 : decode cL_law 418 = .ok (.aload_n 2, 1) := by decide +kernel
theorem dL_law_419 : decode cL_law 419 = .ok (.invokevirtual 54, 3) := by decide +kernel
theorem dL_law_422 : decode cL_law 422 = .ok (.if_icmp .eq 272, 3) := by decide +kernel
theorem dL_law_425 : decode cL_law 425 = .ok (.iconst 0, 1) := by decide +kernel
theorem dL_law_426 : decode cL_law 426 = .ok (.ireturn, 1) := by decide +kernel
theorem dL_law_427 : decode cL_law 427 = .ok (.aload_n 1, 1) := by decide +kernel
theorem dL_law_428 : decode cL_law 428 = .ok (.aload_n 0, 1) := by decide +kernel
theorem dL_law_429 : decode cL_law 429 = .ok (.iload_n 3, 1) := by decide +kernel
theorem dL_law_430 : decode cL_law 430 = .ok (.iconst 1, 1) := by decide +kernel
theorem dL_law_431 : decode cL_law 431 = .ok (.iadd, 1) := by decide +kernel
theorem dL_law_432 : decode cL_law 432 = .ok (.iaload, 1) := by decide +kernel
theorem dL_law_433 : decode cL_law 433 = .ok (.aload_n 0, 1) := by decide +kernel
theorem dL_law_434 : decode cL_law 434 = .ok (.iload_n 3, 1) := by decide +kernel
theorem dL_law_435 : decode cL_law 435 = .ok (.iconst 2, 1) := by decide +kernel
theorem dL_law_436 : decode cL_law 436 = .ok (.iadd, 1) := by decide +kernel
theorem dL_law_437 : decode cL_law 437 = .ok (.iaload, 1) := by decide +kernel
theorem dL_law_438 : decode cL_law 438 = .ok (.invokevirtual 55, 3) := by decide +kernel
theorem dL_law_441 : decode cL_law 441 = .ok (.aload_n 2, 1) := by decide +kernel
theorem dL_law_442 : decode cL_law 442 = .ok (.aload_n 0, 1) := by decide +kernel
theorem dL_law_443 : decode cL_law 443 = .ok (.iload_n 3, 1) := by decide +kernel
theorem dL_law_444 : decode cL_law 444 = .ok (.iconst 1, 1) := by decide +kernel
theorem dL_law_445 : decode cL_law 445 = .ok (.iadd, 1) := by decide +kernel
theorem dL_law_446 : decode cL_law 446 = .ok (.iaload, 1) := by decide +kernel
theorem dL_law_447 : decode cL_law 447 = .ok (.aload_n 0, 1) := by decide +kernel
theorem dL_law_448 : decode cL_law 448 = .ok (.iload_n 3, 1) := by decide +kernel
theorem dL_law_449 : decode cL_law 449 = .ok (.iconst 2, 1) := by decide +kernel
theorem dL_law_450 : decode cL_law 450 = .ok (.iadd, 1) := by decide +kernel
theorem dL_law_451 : decode cL_law 451 = .ok (.iaload, 1) := by decide +kernel
theorem dL_law_452 : decode cL_law 452 = .ok (.invokevirtual 58, 3) := by decide +kernel
theorem dL_law_455 : decode cL_law 455 = .ok (.if_icmp .eq 239, 3) := by decide +kernel
theorem dL_law_458 : decode cL_law 458 = .ok (.iconst 0, 1) := by decide +kernel
theorem dL_law_459 : decode cL_law 459 = .ok (.ireturn, 1) := by decide +kernel
theorem dL_law_460 : decode cL_law 460 = .ok (.aload_n 1, 1) := by decide +kernel
theorem dL_law_461 : decode cL_law 461 = .ok (.aload_n 0, 1) := by decide +kernel
theorem dL_law_462 : decode cL_law 462 = .ok (.iload_n 3, 1) := by decide +kernel
theorem dL_law_463 : decode cL_law 463 = .ok (.iconst 1, 1) := by decide +kernel
theorem dL_law_464 : decode cL_law 464 = .ok (.iadd, 1) := by decide +kernel
theorem dL_law_465 : decode cL_law 465 = .ok (.iaload, 1) := by decide +kernel
theorem dL_law_466 : decode cL_law 466 = .ok (.aload_n 0, 1) := by decide +kernel
theorem dL_law_467 : decode cL_law 467 = .ok (.iload_n 3, 1) := by decide +kernel
theorem dL_law_468 : decode cL_law 468 = .ok (.iconst 2, 1) := by decide +kernel
theorem dL_law_469 : decode cL_law 469 = .ok (.iadd, 1) := by decide +kernel
theorem dL_law_470 : decode cL_law 470 = .ok (.iaload, 1) := by decide +kernel
theorem dL_law_471 : decode cL_law 471 = .ok (.aload_n 0, 1) := by decide +kernel
theorem dL_law_472 : decode cL_law 472 = .ok (.iload_n 3, 1) := by decide +kernel
theorem dL_law_473 : decode cL_law 473 = .ok (.iconst 3, 1) := by decide +kernel
theorem dL_law_474 : decode cL_law 474 = .ok (.iadd, 1) := by decide +kernel
theorem dL_law_475 : decode cL_law 475 = .ok (.iaload, 1) := by decide +kernel
theorem dL_law_476 : decode cL_law 476 = .ok (.invokevirtual 59, 3) := by decide +kernel
theorem dL_law_479 : decode cL_law 479 = .ok (.aload_n 2, 1) := by decide +kernel
theorem dL_law_480 : decode cL_law 480 = .ok (.aload_n 0, 1) := by decide +kernel
theorem dL_law_481 : decode cL_law 481 = .ok (.iload_n 3, 1) := by decide +kernel
theorem dL_law_482 : decode cL_law 482 = .ok (.iconst 1, 1) := by decide +kernel
theorem dL_law_483 : decode cL_law 483 = .ok (.iadd, 1) := by decide +kernel
theorem dL_law_484 : decode cL_law 484 = .ok (.iaload, 1) := by decide +kernel
theorem dL_law_485 : decode cL_law 485 = .ok (.aload_n 0, 1) := by decide +kernel
theorem dL_law_486 : decode cL_law 486 = .ok (.iload_n 3, 1) := by decide +kernel
theorem dL_law_487 : decode cL_law 487 = .ok (.iconst 2, 1) := by decide +kernel
theorem dL_law_488 : decode cL_law 488 = .ok (.iadd, 1) := by decide +kernel
theorem dL_law_489 : decode cL_law 489 = .ok (.iaload, 1) := by decide +kernel
theorem dL_law_490 : decode cL_law 490 = .ok (.aload_n 0, 1) := by decide +kernel
theorem dL_law_491 : decode cL_law 491 = .ok (.iload_n 3, 1) := by decide +kernel
theorem dL_law_492 : decode cL_law 492 = .ok (.iconst 3, 1) := by decide +kernel
theorem dL_law_493 : decode cL_law 493 = .ok (.iadd, 1) := by decide +kernel
theorem dL_law_494 : decode cL_law 494 = .ok (.iaload, 1) := by decide +kernel
theorem dL_law_495 : decode cL_law 495 = .ok (.invokevirtual 62, 3) := by decide +kernel
theorem dL_law_498 : decode cL_law 498 = .ok (.if_icmp .eq 196, 3) := by decide +kernel
theorem dL_law_501 : decode cL_law 501 = .ok (.iconst 0, 1) := by decide +kernel
theorem dL_law_502 : decode cL_law 502 = .ok (.ireturn, 1) := by decide +kernel
theorem dL_law_503 : decode cL_law 503 = .ok (.aload_n 1, 1) := by decide +kernel
theorem dL_law_504 : decode cL_law 504 = .ok (.aload_n 0, 1) := by decide +kernel
theorem dL_law_505 : decode cL_law 505 = .ok (.iload_n 3, 1) := by decide +kernel
theorem dL_law_506 : decode cL_law 506 = .ok (.iconst 1, 1) := by decide +kernel
theorem dL_law_507 : decode cL_law 507 = .ok (.iadd, 1) := by decide +kernel
theorem dL_law_508 : decode cL_law 508 = .ok (.iaload, 1) := by decide +kernel
theorem dL_law_509 : decode cL_law 509 = .ok (.aload_n 0, 1) := by decide +kernel
theorem dL_law_510 : decode cL_law 510 = .ok (.iload_n 3, 1) := by decide +kernel
theorem dL_law_511 : decode cL_law 511 = .ok (.iconst 2, 1) := by decide +kernel
theorem dL_law_512 : decode cL_law 512 = .ok (.iadd, 1) := by decide +kernel
theorem dL_law_513 : decode cL_law 513 = .ok (.iaload, 1) := by decide +kernel
theorem dL_law_514 : decode cL_law 514 = .ok (.invokevirtual 63, 3) := by decide +kernel
theorem dL_law_517 : decode cL_law 517 = .ok (.aload_n 2, 1) := by decide +kernel
theorem dL_law_518 : decode cL_law 518 = .ok (.aload_n 0, 1) := by decide +kernel
theorem dL_law_519 : decode cL_law 519 = .ok (.iload_n 3, 1) := by decide +kernel
theorem dL_law_520 : decode cL_law 520 = .ok (.iconst 1, 1) := by decide +kernel
theorem dL_law_521 : decode cL_law 521 = .ok (.iadd, 1) := by decide +kernel
theorem dL_law_522 : decode cL_law 522 = .ok (.iaload, 1) := by decide +kernel
theorem dL_law_523 : decode cL_law 523 = .ok (.aload_n 0, 1) := by decide +kernel
theorem dL_law_524 : decode cL_law 524 = .ok (.iload_n 3, 1) := by decide +kernel
theorem dL_law_525 : decode cL_law 525 = .ok (.iconst 2, 1) := by decide +kernel
theorem dL_law_526 : decode cL_law 526 = .ok (.iadd, 1) := by decide +kernel
theorem dL_law_527 : decode cL_law 527 = .ok (.iaload, 1) := by decide +kernel
theorem dL_law_528 : decode cL_law 528 = .ok (.invokevirtual 66, 3) := by decide +kernel
theorem dL_law_531 : decode cL_law 531 = .ok (.if_icmp .eq 163, 3) := by decide +kernel
theorem dL_law_534 : decode cL_law 534 = .ok (.iconst 0, 1) := by decide +kernel
theorem dL_law_535 : decode cL_law 535 = .ok (.ireturn, 1) := by decide +kernel
theorem dL_law_536 : decode cL_law 536 = .ok (.aload_n 1, 1) := by decide +kernel
theorem dL_law_537 : decode cL_law 537 = .ok (.aload_n 0, 1) := by decide +kernel
theorem dL_law_538 : decode cL_law 538 = .ok (.iload_n 3, 1) := by decide +kernel
theorem dL_law_539 : decode cL_law 539 = .ok (.iconst 1, 1) := by decide +kernel
theorem dL_law_540 : decode cL_law 540 = .ok (.iadd, 1) := by decide +kernel
theorem dL_law_541 : decode cL_law 541 = .ok (.iaload, 1) := by decide +kernel
theorem dL_law_542 : decode cL_law 542 = .ok (.aload_n 0, 1) := by decide +kernel
theorem dL_law_543 : decode cL_law 543 = .ok (.iload_n 3, 1) := by decide +kernel
theorem dL_law_544 : decode cL_law 544 = .ok (.iconst 2, 1) := by decide +kernel
theorem dL_law_545 : decode cL_law 545 = .ok (.iadd, 1) := by decide +kernel
theorem dL_law_546 : decode cL_law 546 = .ok (.iaload, 1) := by decide +kernel
theorem dL_law_547 : decode cL_law 547 = .ok (.invokevirtual 67, 3) := by decide +kernel
theorem dL_law_550 : decode cL_law 550 = .ok (.aload_n 2, 1) := by decide +kernel
theorem dL_law_551 : decode cL_law 551 = .ok (.aload_n 0, 1) := by decide +kernel
theorem dL_law_552 : decode cL_law 552 = .ok (.iload_n 3, 1) := by decide +kernel
theorem dL_law_553 : decode cL_law 553 = .ok (.iconst 1, 1) := by decide +kernel
theorem dL_law_554 : decode cL_law 554 = .ok (.iadd, 1) := by decide +kernel
theorem dL_law_555 : decode cL_law 555 = .ok (.iaload, 1) := by decide +kernel
theorem dL_law_556 : decode cL_law 556 = .ok (.aload_n 0, 1) := by decide +kernel
theorem dL_law_557 : decode cL_law 557 = .ok (.iload_n 3, 1) := by decide +kernel
theorem dL_law_558 : decode cL_law 558 = .ok (.iconst 2, 1) := by decide +kernel
theorem dL_law_559 : decode cL_law 559 = .ok (.iadd, 1) := by decide +kernel
theorem dL_law_560 : decode cL_law 560 = .ok (.iaload, 1) := by decide +kernel
theorem dL_law_561 : decode cL_law 561 = .ok (.invokevirtual 70, 3) := by decide +kernel
theorem dL_law_564 : decode cL_law 564 = .ok (.if_icmp .eq 130, 3) := by decide +kernel
theorem dL_law_567 : decode cL_law 567 = .ok (.iconst 0, 1) := by decide +kernel
theorem dL_law_568 : decode cL_law 568 = .ok (.ireturn, 1) := by decide +kernel
theorem dL_law_569 : decode cL_law 569 = .ok (.aload_n 1, 1) := by decide +kernel
theorem dL_law_570 : decode cL_law 570 = .ok (.aload_n 0, 1) := by decide +kernel
theorem dL_law_571 : decode cL_law 571 = .ok (.iload_n 3, 1) := by decide +kernel
theorem dL_law_572 : decode cL_law 572 = .ok (.iconst 1, 1) := by decide +kernel
theorem dL_law_573 : decode cL_law 573 = .ok (.iadd, 1) := by decide +kernel
theorem dL_law_574 : decode cL_law 574 = .ok (.iaload, 1) := by decide +kernel
theorem dL_law_575 : decode cL_law 575 = .ok (.invokevirtual 71, 3) := by decide +kernel
theorem dL_law_578 : decode cL_law 578 = .ok (.aload_n 2, 1) := by decide +kernel
theorem dL_law_579 : decode cL_law 579 = .ok (.aload_n 0, 1) := by decide +kernel
theorem dL_law_580 : decode cL_law 580 = .ok (.iload_n 3, 1) := by decide +kernel
theorem dL_law_581 : decode cL_law 581 = .ok (.iconst 1, 1) := by decide +kernel
theorem dL_law_582 : decode cL_law 582 = .ok (.iadd, 1) := by decide +kernel
theorem dL_law_583 : decode cL_law 583 = .ok (.iaload, 1) := by decide +kernel
theorem dL_law_584 : decode cL_law 584 = .ok (.invokevirtual 74, 3) := by decide +kernel
theorem dL_law_587 : decode cL_law 587 = .ok (.if_icmp .eq 107, 3) := by decide +kernel
theorem dL_law_590 : decode cL_law 590 = .ok (.iconst 0, 1) := by decide +kernel
theorem dL_law_591 : decode cL_law 591 = .ok (.ireturn, 1) := by decide +kernel
theorem dL_law_592 : decode cL_law 592 = .ok (.aload_n 1, 1) := by decide +kernel
theorem dL_law_593 : decode cL_law 593 = .ok (.aload_n 0, 1) := by decide +kernel
theorem dL_law_594 : decode cL_law 594 = .ok (.iload_n 3, 1) := by decide +kernel
theorem dL_law_595 : decode cL_law 595 = .ok (.iconst 1, 1) := by decide +kernel
theorem dL_law_596 : decode cL_law 596 = .ok (.iadd, 1) := by decide +kernel
theorem dL_law_597 : decode cL_law 597 = .ok (.iaload, 1) := by decide +kernel
theorem dL_law_598 : decode cL_law 598 = .ok (.aload_n 0, 1) := by decide +kernel
theorem dL_law_599 : decode cL_law 599 = .ok (.iload_n 3, 1) := by decide +kernel
theorem dL_law_600 : decode cL_law 600 = .ok (.iconst 2, 1) := by decide +kernel
theorem dL_law_601 : decode cL_law 601 = .ok (.iadd, 1) := by decide +kernel
theorem dL_law_602 : decode cL_law 602 = .ok (.iaload, 1) := by decide +kernel
theorem dL_law_603 : decode cL_law 603 = .ok (.invokevirtual 75, 3) := by decide +kernel
theorem dL_law_606 : decode cL_law 606 = .ok (.aload_n 2, 1) := by decide +kernel
theorem dL_law_607 : decode cL_law 607 = .ok (.aload_n 0, 1) := by decide +kernel
theorem dL_law_608 : decode cL_law 608 = .ok (.iload_n 3, 1) := by decide +kernel
theorem dL_law_609 : decode cL_law 609 = .ok (.iconst 1, 1) := by decide +kernel
theorem dL_law_610 : decode cL_law 610 = .ok (.iadd, 1) := by decide +kernel
theorem dL_law_611 : decode cL_law 611 = .ok (.iaload, 1) := by decide +kernel
theorem dL_law_612 : decode cL_law 612 = .ok (.aload_n 0, 1) := by decide +kernel
theorem dL_law_613 : decode cL_law 613 = .ok (.iload_n 3, 1) := by decide +kernel
theorem dL_law_614 : decode cL_law 614 = .ok (.iconst 2, 1) := by decide +kernel
theorem dL_law_615 : decode cL_law 615 = .ok (.iadd, 1) := by decide +kernel
theorem dL_law_616 : decode cL_law 616 = .ok (.iaload, 1) := by decide +kernel
theorem dL_law_617 : decode cL_law 617 = .ok (.invokevirtual 78, 3) := by decide +kernel
theorem dL_law_620 : decode cL_law 620 = .ok (.if_icmp .eq 74, 3) := by decide +kernel
theorem dL_law_623 : decode cL_law 623 = .ok (.iconst 0, 1) := by decide +kernel
theorem dL_law_624 : decode cL_law 624 = .ok (.ireturn, 1) := by decide +kernel
theorem dL_law_625 : decode cL_law 625 = .ok (.aload_n 1, 1) := by decide +kernel
theorem dL_law_626 : decode cL_law 626 = .ok (.aload_n 0, 1) := by decide +kernel
theorem dL_law_627 : decode cL_law 627 = .ok (.iload_n 3, 1) := by decide +kernel
theorem dL_law_628 : decode cL_law 628 = .ok (.iconst 1, 1) := by decide +kernel
theorem dL_law_629 : decode cL_law 629 = .ok (.iadd, 1) := by decide +kernel
theorem dL_law_630 : decode cL_law 630 = .ok (.iaload, 1) := by decide +kernel
theorem dL_law_631 : decode cL_law 631 = .ok (.invokevirtual 79, 3) := by decide +kernel
theorem dL_law_634 : decode cL_law 634 = .ok (.aload_n 2, 1) := by decide +kernel
theorem dL_law_635 : decode cL_law 635 = .ok (.aload_n 0, 1) := by decide +kernel
theorem dL_law_636 : decode cL_law 636 = .ok (.iload_n 3, 1) := by decide +kernel
theorem dL_law_637 : decode cL_law 637 = .ok (.iconst 1, 1) := by decide +kernel
theorem dL_law_638 : decode cL_law 638 = .ok (.iadd, 1) := by decide +kernel
theorem dL_law_639 : decode cL_law 639 = .ok (.iaload, 1) := by decide +kernel
theorem dL_law_640 : decode cL_law 640 = .ok (.invokevirtual 82, 3) := by decide +kernel
theorem dL_law_643 : decode cL_law 643 = .ok (.if_icmp .eq 51, 3) := by decide +kernel
theorem dL_law_646 : decode cL_law 646 = .ok (.iconst 0, 1) := by decide +kernel
theorem dL_law_647 : decode cL_law 647 = .ok (.ireturn, 1) := by decide +kernel
theorem dL_law_648 : decode cL_law 648 = .ok (.aload_n 1, 1) := by decide +kernel
theorem dL_law_649 : decode cL_law 649 = .ok (.aload_n 0, 1) := by decide +kernel
theorem dL_law_650 : decode cL_law 650 = .ok (.iload_n 3, 1) := by decide +kernel
theorem dL_law_651 : decode cL_law 651 = .ok (.iconst 1, 1) := by decide +kernel
theorem dL_law_652 : decode cL_law 652 = .ok (.iadd, 1) := by decide +kernel
theorem dL_law_653 : decode cL_law 653 = .ok (.iaload, 1) := by decide +kernel
theorem dL_law_654 : decode cL_law 654 = .ok (.invokevirtual 83, 3) := by decide +kernel
theorem dL_law_657 : decode cL_law 657 = .ok (.aload_n 2, 1) := by decide +kernel
theorem dL_law_658 : decode cL_law 658 = .ok (.aload_n 0, 1) := by decide +kernel
theorem dL_law_659 : decode cL_law 659 = .ok (.iload_n 3, 1) := by decide +kernel
theorem dL_law_660 : decode cL_law 660 = .ok (.iconst 1, 1) := by decide +kernel
theorem dL_law_661 : decode cL_law 661 = .ok (.iadd, 1) := by decide +kernel
theorem dL_law_662 : decode cL_law 662 = .ok (.iaload, 1) := by decide +kernel
theorem dL_law_663 : decode cL_law 663 = .ok (.invokevirtual 86, 3) := by decide +kernel
theorem dL_law_666 : decode cL_law 666 = .ok (.if_icmp .eq 28, 3) := by decide +kernel
theorem dL_law_669 : decode cL_law 669 = .ok (.iconst 0, 1) := by decide +kernel
theorem dL_law_670 : decode cL_law 670 = .ok (.ireturn, 1) := by decide +kernel
theorem dL_law_671 : decode cL_law 671 = .ok (.aload_n 1, 1) := by decide +kernel
theorem dL_law_672 : decode cL_law 672 = .ok (.aload_n 0, 1) := by decide +kernel
theorem dL_law_673 : decode cL_law 673 = .ok (.iload_n 3, 1) := by decide +kernel
theorem dL_law_674 : decode cL_law 674 = .ok (.iconst 1, 1) := by decide +kernel
theorem dL_law_675 : decode cL_law 675 = .ok (.iadd, 1) := by decide +kernel
theorem dL_law_676 : decode cL_law 676 = .ok (.iaload, 1) := by decide +kernel
theorem dL_law_677 : decode cL_law 677 = .ok (.invokevirtual 87, 3) := by decide +kernel
theorem dL_law_680 : decode cL_law 680 = .ok (.aload_n 2, 1) := by decide +kernel
theorem dL_law_681 : decode cL_law 681 = .ok (.aload_n 0, 1) := by decide +kernel
theorem dL_law_682 : decode cL_law 682 = .ok (.iload_n 3, 1) := by decide +kernel
theorem dL_law_683 : decode cL_law 683 = .ok (.iconst 1, 1) := by decide +kernel
theorem dL_law_684 : decode cL_law 684 = .ok (.iadd, 1) := by decide +kernel
theorem dL_law_685 : decode cL_law 685 = .ok (.iaload, 1) := by decide +kernel
theorem dL_law_686 : decode cL_law 686 = .ok (.invokevirtual 90, 3) := by decide +kernel
theorem dL_law_689 : decode cL_law 689 = .ok (.if_icmp .eq 5, 3) := by decide +kernel
theorem dL_law_692 : decode cL_law 692 = .ok (.iconst 0, 1) := by decide +kernel
theorem dL_law_693 : decode cL_law 693 = .ok (.ireturn, 1) := by decide +kernel
theorem dL_law_694 : decode cL_law 694 = .ok (.iinc 3 6, 3) := by decide +kernel
theorem dL_law_697 : decode cL_law 697 = .ok (.goto (-679), 3) := by decide +kernel
theorem dL_law_700 : decode cL_law 700 = .ok (.iconst 1, 1) := by decide +kernel
theorem dL_law_701 : decode cL_law 701 = .ok (.ireturn, 1) := by decide +kernel
end
section
/-! the indexed world: a cell has an index (kind, store, block, place); all numbers of all cells are one memory; what refers never changes -/
abbrev ix : Type := Nat × Nat × Nat × Nat
abbrev Mem : Type := (ix → Nat → Int32) × (Nat → Int64)
abbrev GG : Type := va_G × (Nat → ClassId)
abbrev arI (G : GG) (n : Nat) (r : Nat → Int32) : va_E := .inl (G.2 0, n, .inl r)
abbrev arR (ca : ClassId) (n : Nat) (r : Nat → Option Nat) : va_E := .inl (ca, n, .inr (.inr (.inr (.inr r))))
def rfs (n : Nat) (g : Nat → Nat) : Nat → Option Nat := fun j => if j < n then some (g j) else none
/-- what the cell of an index holds, by its numbers r (and the long ones w) -/
def pc_ (G : GG) (ad : ix → Nat) (i : ix) (r : Nat → Int32) (w : Nat → Int64) : va_E := match i with
  | (k, s, b, c) => match k with
    | 0 => .inr (8, [.ref (ad (1, 0, 0, 0)), .ref (ad (10, 0, 0, 0)), .ref (ad (11, 0, 0, 0)), .ref (ad (18, 0, 0, 0)), .ref (ad (20, 0, 0, 0)), .ref (ad (24, 0, 0, 0)), .ref (ad (25, 0, 0, 0)), .ref (ad (26, 0, 0, 0)), .ref (ad (28, 0, 0, 0))])
    | 1 => .inr (5, [.ref (ad (2, s, 0, 0))])
    | 2 => arR (G.2 3) 6 (rfs 6 fun j => ad (3, s, j, 0))
    | 3 => .inr (0, [.int (r 0), .ref (ad (4, s, b, 0)), .ref (ad (6, s, b, 0)), .ref (ad (7, s, b, 4))])
    | 4 => arR (G.2 6) 8 (rfs 8 fun j => ad (5, s, b, j))
    | 5 => arI G 4 r
    | 6 => arR (G.2 5) 4 (rfs 4 fun j => ad (7, s, b, j))
    | 7 => .inr (6, [.int (r 0), .int (r 1), .int (r 2), .int (r 3), .int (r 4), .ref (ad (8, s, b, c)), .ref (ad (9, s, b, c))])
    | 8 => arI G 4 r
    | 9 => arI G 4 r
    | 10 => arR (G.2 4) 2 (fun j => if r j = 0 then none else some (ad (1, j + 1, 0, 0)))
    | 11 => .inr (1, [.int (r 0), .ref (ad (12, 0, 0, 0)), .ref (ad (13, 0, 0, 0)), .ref (ad (14, 0, 0, 0)), .ref (ad (15, 0, 0, 0)), .ref (ad (16, 0, 0, 0)), .ref (ad (17, 0, 0, 0)), .int (r 7), .int (r 8)])
    | 12 => arI G 60 r
    | 13 => arI G 60 r
    | 14 => arI G 60 r
    | 15 => arI G 60 r
    | 16 => arI G 60 r
    | 17 => arI G 121 r
    | 18 => .inr (3, [.ref (ad (11, 0, 0, 0)), .ref (ad (19, 0, 0, 0))])
    | 19 => arI G 60 r
    | 20 => .inr (2, [.ref (ad (21, 0, 0, 0)), .ref (ad (22, 0, 0, 0)), .ref (ad (23, 0, 0, 0)), .ref (ad (11, 0, 0, 0))])
    | 21 => arI G 60 r
    | 22 => arI G 60 r
    | 23 => arI G 60 r
    | 24 => arI G 4 r
    | 25 => arI G 6 r
    | 26 => .inr (4, [.int (r 0), .ref (ad (27, 0, 0, 0))])
    | 27 => .inl (G.2 1, 48, .inr (.inl w))
    | 28 => .inr (7, [.int (r 0), .int (r 1), .int (r 2), .int (r 3)])
    | 29 => .inr (9, [.ref (ad (30, 0, 0, 0)), .ref (ad (31, 0, 0, 0)), .ref (ad (32, 0, 0, 0)), .ref (ad (33, 0, 0, 0)), .int (r 4), .ref (ad (34, 0, 0, 0)), .ref (ad (35, 0, 0, 0)), .ref (ad (36, 0, 0, 0)), .ref (ad (37, 0, 0, 0)), .ref (ad (38, 0, 0, 0)), .ref (ad (39, 0, 0, 0)), .ref (ad (40, 0, 0, 0)), .ref (ad (41, 0, 0, 0)), .ref (ad (42, 0, 0, 0)), .ref (ad (43, 0, 0, 0)), .ref (ad (44, 0, 0, 0)), .ref (ad (45, 0, 0, 0)), .ref (ad (46, 0, 0, 0))])
    | 30 => arI G 192 r
    | 31 => arI G 6 r
    | 32 => arI G 288 r
    | 33 => arI G 12 r
    | 34 => arI G 60 r
    | 35 => arI G 60 r
    | 36 => arI G 60 r
    | 37 => arI G 60 r
    | 38 => arI G 60 r
    | 39 => arI G 200 r
    | 40 => arI G 60 r
    | 41 => arI G 4 r
    | 42 => arI G 60 r
    | 43 => arI G 60 r
    | 44 => arI G 60 r
    | 45 => arI G 1000 r
    | 46 => .inl (G.2 2, 2, .inl r)
    | _ => arI G 0 r
def pic (G : GG) (ad : ix → Nat) (M : Mem) (i : ix) : va_E := pc_ G ad i (M.1 i) M.2
/-- a row of numbers of the cell i, put in the place of the old ones -/
def mr (M : Mem) (i : ix) (r : Nat → Int32) : Mem := (fun j => if j = i then r else M.1 j, M.2)
def mu (M : Mem) (i : ix) (k : Nat) (v : Int32) : Mem := mr M i (upd (M.1 i) k v)
def ml (M : Mem) (k : Nat) (v : Int64) : Mem := (M.1, vp_updL M.2 k v)
def isI (i : ix) (n : Nat) : Prop := ∀ (G : GG) (ad : ix → Nat) (r : Nat → Int32) (w : Nat → Int64), pc_ G ad i r w = arI G n r
theorem mr_at (M : Mem) (i : ix) (r : Nat → Int32) : (mr M i r).1 i = r := if_pos rfl
theorem mr_ne (M : Mem) {i j : ix} (r : Nat → Int32) (h : j ≠ i) : (mr M i r).1 j = M.1 j := if_neg h
theorem pic_mr (G : GG) (ad : ix → Nat) (M : Mem) (i : ix) (r : Nat → Int32) : pic G ad (mr M i r) i = pc_ G ad i r M.2 := by
  show pc_ G ad i ((mr M i r).1 i) (mr M i r).2 = _
  rw [mr_at]; rfl
theorem pic_ne (G : GG) (ad : ix → Nat) (M : Mem) {i j : ix} (r : Nat → Int32) (h : j ≠ i) : pic G ad (mr M i r) j = pic G ad M j := by
  show pc_ G ad j ((mr M i r).1 j) (mr M i r).2 = _
  rw [mr_ne M r h]; rfl
theorem pc_w {G : GG} {ad : ix → Nat} {i : ix} {r : Nat → Int32} {w w2 : Nat → Int64} (h : i.1 ≠ 27) : pc_ G ad i r w = pc_ G ad i r w2 := by
  obtain ⟨k, s, b, c⟩ := i
  unfold pc_
  dsimp only at h ⊢
  split <;> first | rfl | exact absurd rfl h
/-- the heap holds the cells I, at the addresses ad, with the numbers M -/
def wd (G : GG) (I : ix → Prop) (ad : ix → Nat) (M : Mem) (H : Heap) : Prop := (∀ i, I i → va_at G.1 vwCl (ad i, pic G ad M i) H) ∧ ∀ i j, I i → I j → ad i = ad j → i = j
def fA (I : ix → Prop) (ad : ix → Nat) : Nat → Prop := fun q => ∃ i, I i ∧ ad i = q
theorem wd.one {G : GG} {I : ix → Prop} {ad : ix → Nat} {M : Mem} {H : Heap} (h : wd G I ad M H) {i : ix} (hi : I i) : va_P G.1 vwCl [(ad i, pic G ad M i)] H := by
  intro k q hk
  cases k with
  | zero => cases hk; exact h.1 i hi
  | succ k => cases hk
theorem wd.oneD {I : ix → Prop} {ad : ix → Nat} {i : ix} (hi : I i) (e : va_E) : va_D (fA I ad) [(ad i, e)] := by
  refine ⟨fun a b p q ha hb _ => ?_, fun k q hk => ?_⟩
  · have h1 := (List.getElem?_eq_some_iff.mp ha).1
    have h2 := (List.getElem?_eq_some_iff.mp hb).1
    simp at h1 h2
    omega
  · cases k with
    | zero => cases hk; exact ⟨i, hi, rfl⟩
    | succ k => cases hk
theorem wd.set {G : GG} {I : ix → Prop} {ad : ix → Nat} {M : Mem} {H H1 : Heap} (h : wd G I ad M H) {i : ix} (hi : I i) {r : Nat → Int32} (he : va_at G.1 vwCl (ad i, pc_ G ad i r M.2) H1) (oq : ∀ q : Nat, q ≠ ad i → H1[q]? = H[q]?) : wd G I ad (mr M i r) H1 := by
  refine ⟨fun j hj => ?_, h.2⟩
  by_cases e : j = i
  · subst e
    rw [pic_mr]
    exact he
  · rw [pic_ne G ad M r e]
    exact (h.1 j hj).kept (oq (ad j) (fun z => e (h.2 j i hj hi z)))
theorem wd.setL {G : GG} {I : ix → Prop} {ad : ix → Nat} {M : Mem} {H H1 : Heap} (h : wd G I ad M H) (hi : I (27, 0, 0, 0)) (hI : ∀ j, I j → j.1 = 27 → j = (27, 0, 0, 0)) {w : Nat → Int64} (he : va_at G.1 vwCl (ad (27, 0, 0, 0), .inl (G.2 1, 48, .inr (.inl w))) H1) (oq : ∀ q : Nat, q ≠ ad (27, 0, 0, 0) → H1[q]? = H[q]?) : wd G I ad (M.1, w) H1 := by
  refine ⟨fun j hj => ?_, h.2⟩
  by_cases e : j.1 = 27
  · rw [hI j hj e]
    exact he
  · have e1 : pic G ad (M.1, w) j = pic G ad M j := pc_w e
    rw [e1]
    exact (h.1 j hj).kept (oq (ad j) (fun z => e (by rw [h.2 j _ hj hi z])))
abbrev tyL (cy : Nat → ClassId) : List (ClassId × FieldType) := [(cy 0, .int), (cy 1, .long), (cy 2, .boolean), (cy 3, .object RX0), (cy 4, .object RX5), (cy 5, .object RX6), (cy 6, .array .int)]
abbrev nestL : List (String × Nat × MethodName) := [(RX1, 65, yX8_isLetter), (RX1, 68, yX8_isFigure), (RX1, 71, yX8_at), (RX1, 79, yX8_hasSecond), (RX3, 38, yX8_at), (RX3, 42, yX8_notOf), (RX3, 49, yX8_bothOf), (RX3, 53, yX8_eitherOf), (RX3, 57, yX8_isLetter), (RX3, 61, yX8_isFigure), (RX3, 67, yX8_sumOf), (RX2, 48, yX8_at), (RX2, 69, yX8_isColumn), (RX2, 87, yX8_chanceOf), (RX2, 90, yX8_notOf), (RX2, 93, yX8_bothOf), (RX2, 97, yX8_eitherOf), (RX2, 100, yX8_isLetter), (RX2, 103, yX8_isFigure), (RX2, 106, yX8_isSum), (RX2, 137, yX8_sumOf), (RX4, 21, yX8_at)]
/-- what the tables say of the classes, of the arrays' classes, of the nest's private methods -/
def wK (G : GG) (U : State) : Prop := va_K G.1 vwCl (tyL G.2) U ∧ ∀ q ∈ nestL, va_Nw (.methodLinkNest q.1 q.2.1 q.2.2 "BlockTruths") U
theorem wK.warm {G : GG} {s U : State} (hW : s.WarmedH U.vm) (h : wK G s) : wK G U := ⟨va_K.moved hW.alike h.1, fun q hq => va_Nw.warmM hW (h.2 q hq)⟩
theorem wK.blind {G : GG} {I : ix → Prop} {ad : ix → Nat} {M : Mem} {vs : List Value} : FrameBlind (va_Pc vs (fun U => wd G I ad M U.heap ∧ wK G U)) := by
  intro a U g mk q
  obtain ⟨h1, h2, h3, h4⟩ := q
  exact ⟨h1, h2, va_K.moved (u := U) (U := U.calling g mk a) (Vm.Alike.refl U.vm) h3, fun q hq => va_Nw.same rfl rfl (h4 q hq)⟩
/-- a method's fixed things -/
def cx (p : Program) (s : State) (m : MethodId) (args : Array Value) (meth : Method) (c : Code) (cc : ByteArray) (nL : Nat) (rt : Option FieldType) (own : String) (G : GG) : Prop :=
  p.tables.exec = Jvm.exec ∧ c.code = cc ∧ c.maxLocals = nL ∧ s.vm.findClass own = some m.cls ∧ (∀ w ∈ WG, w.before args s = true) ∧ meth.sig.returnType = rt ∧ meth.locks = false ∧ wK G s
theorem if_t {c A B : Prop} [Decidable c] (h : c) (hw : if c then A else B) : A := by rwa [if_pos h] at hw
theorem if_f {c A B : Prop} [Decidable c] (h : ¬ c) (hw : if c then A else B) : B := by rwa [if_neg h] at hw
theorem in_lt {x : Int32} {n : Nat} (h : vp_in x n) : x.toNatClampNeg < n := Nat.not_le.mp fun q => h (Or.inr q)
abbrev qI (G : GG) (I : ix → Prop) (ad : ix → Nat) (Q : Int32 → Mem → Prop) : Array Value → State → Outcome → State → Prop := va_Qi Q (fun (M : Mem) (t : State) => wd G I ad M t.heap) (fA I ad)
abbrev qV (G : GG) (I : ix → Prop) (ad : ix → Nat) (Q : Mem → Prop) : Array Value → State → Outcome → State → Prop := va_Qv Q (fun (M : Mem) (t : State) => wd G I ad M t.heap) (fA I ad)
section RW
variable {p : Program} {l : Launch} {e : Env} {R : Room} {s : State} {m : MethodId} {args : Array Value} {below : List Frame} {meth : Method} {c : Code} {H : Heap} {locs : List Loc} {cells slots : Nat} {Q : State → Prop}
variable {cc : ByteArray} {pc nL index : Nat} {ls : Array Slot} {rest : List Value} {rt : Option FieldType} {own : String} {G : GG} {I : ix → Prop} {ad : ix → Nat} {M : Mem} {i : ix}
theorem r_get (C : cx p s m args meth c cc nL rt own G) (hP : wd G I ad M H) (hi : I i) {ci : Nat} {fs : List Value} (he : pic G ad M i = .inr (ci, fs)) {Cn : String} {T : u_T} {N : Nat} (hin : ∀ w ∈ u_ws Cn T N, w ∈ WG) (hc : vwCl[ci]? = some (Cn, T, N)) (k : Nat) (hk : k < N) (hlink : Cond.fieldLink own index (T k).1 (T k).2.1 (T k).2.2.1 ∈ WG) {v : Value} (hv : fs[k]? = some v) (hdg : decode cc pc = .ok (.getfield index, 3))
    (kk : W p l e R s m args below meth c H locs cells slots Q (F0 m (pc + 3) ls (v :: rest))) : W p l e R s m args below meth c H locs cells slots Q (F0 m pc ls (.ref (ad i) :: rest)) := by
  obtain ⟨hx, hb, -, hown, hts, -, -, hK, -⟩ := C
  have hP1 := hP.one hi
  rw [he] at hP1
  exact va_get (D := G.1) hx hb hts hin hown hK hP1 0 rfl hc k hk (hts _ hlink) (fun _ h => h) hv hdg kk
theorem r_put (C : cx p s m args meth c cc nL rt own G) (hP : wd G I ad M H) (hS : va_S (fA I ad) s.heap H locs) (hi : I i) {ci : Nat} {fs : List Value} (he : pic G ad M i = .inr (ci, fs)) {Cn : String} {T : u_T} {N : Nat} (hin : ∀ w ∈ u_ws Cn T N, w ∈ WG) (ty0 : Nat → FieldType) (hty : ∀ k, k < N → parseFieldDescriptor (T k).2.2.1 = some (ty0 k)) (hnm : ∀ a, a < N → ∀ b, b < N → a ≠ b → (T a).2.1 ≠ (T b).2.1) (hc : vwCl[ci]? = some (Cn, T, N)) (k : Nat) (hk : k < N) (hlink : Cond.fieldLink own index (T k).1 (T k).2.1 (T k).2.2.1 ∈ WG) (hfin : (T k).2.2.2 = false) {ty : FieldType} {v : Int32} (hd : parseFieldDescriptor (T k).2.2.1 = some ty) (hn : narrow ty (.int v) = .int v) (hfit : fits ty (.int v) = true) (hl : k < fs.length)
    (hset : pc_ G ad i (upd (M.1 i) k v) M.2 = .inr (ci, fs.set k (.int v))) (hdg : decode cc pc = .ok (.putfield index, 3))
    (kk : ∀ (H1 : Heap) (locs1 : List Loc), wd G I ad (mu M i k v) H1 → va_S (fA I ad) s.heap H1 locs1 → W p l e R s m args below meth c H1 locs1 cells slots Q (F0 m (pc + 3) ls rest)) : W p l e R s m args below meth c H locs cells slots Q (F0 m pc ls (.int v :: .ref (ad i) :: rest)) := by
  obtain ⟨hx, hb, -, hown, hts, -, -, hK0, -⟩ := C
  have hK := hK0
  have hP1 := hP.one hi
  rw [he] at hP1
  have hap := va_apart (own := own) hts hin ty0 hty hnm hK hc
  obtain ⟨r, h1, cell, q1, q2, q3, q4⟩ := hP1 0 _ rfl
  have hr : r = (Cn, T, N) := Option.some.inj (h1.symm.trans hc)
  subst hr
  obtain ⟨hSl, hfc, kC, hkC, hkind⟩ := hK.1 ci _ hc
  obtain ⟨cf, kf, fi, f, hi2, hsl⟩ := hSl k hk
  have hlay := hts _ (hin _ (u_in_lay hk))
  unfold u_lay at hlay
  rw [if_neg (by rw [hfin]; decide)] at hlay
  have hst := (u_facts hfc hkC (u_lays hts hin hk) hi2).1
  have h6 := u_store hfc hkC hkind hlay hi2 hd hn hfit
  refine W.putK hx hb (f := f) ⟨hown, hts _ hlink, ⟨_, _, _, hi2⟩, hst⟩ (by rw [q2]; exact h6) q1 q3 (by rw [hsl]; exact k2_hasslot (q4 k hk)) rfl rfl hdg fun H' e1 e2 e3 => ?_
  rw [hsl] at e1 ⊢
  refine kk H' _ (hP.set hi ?_ e3) (hS.put e2 e3 ⟨i, hi, rfl⟩)
  rw [hset]
  exact ⟨_, hc, t_OB.to (V := updV (vp_V fs) k (.int v)) ⟨_, e1, q2, q3, t_set q4 hap hk (.int v)⟩ (fun j _ => vp_updV_set hl (.int v) j)⟩
theorem r_iald (C : cx p s m args meth c cc nL rt own G) (hP : wd G I ad M H) (hi : I i) {n : Nat} (hn : isI i n) {x : Int32} (hin : vp_in x n) (hdg : decode cc pc = .ok (.iaload, 1))
    (kk : W p l e R s m args below meth c H locs cells slots Q (F0 m (pc + 1) ls (.int (M.1 i x.toNatClampNeg) :: rest))) : W p l e R s m args below meth c H locs cells slots Q (F0 m pc ls (.int x :: .ref (ad i) :: rest)) := by
  obtain ⟨hx, hb, -, hown, hts, -, -, hK, -⟩ := C
  have hP1 := hP.one hi
  unfold pic at hP1
  rw [hn] at hP1
  exact va_iald hx hb hK hP1 0 0 rfl rfl hin hdg kk
theorem r_iast (C : cx p s m args meth c cc nL rt own G) (hP : wd G I ad M H) (hS : va_S (fA I ad) s.heap H locs) (hi : I i) {n : Nat} (hn : isI i n) {x v : Int32} (hin : vp_in x n) (hdg : decode cc pc = .ok (.iastore, 1))
    (kk : ∀ (H1 : Heap) (locs1 : List Loc), wd G I ad (mu M i x.toNatClampNeg v) H1 → va_S (fA I ad) s.heap H1 locs1 → W p l e R s m args below meth c H1 locs1 cells slots Q (F0 m (pc + 1) ls rest)) : W p l e R s m args below meth c H locs cells slots Q (F0 m pc ls (.int v :: .int x :: .ref (ad i) :: rest)) := by
  obtain ⟨hx, hb, -, hown, hts, -, -, hK, -⟩ := C
  have hP1 := hP.one hi
  unfold pic at hP1
  rw [hn] at hP1
  refine W.iast hx hb (hP1 0 _ rfl) ((hK.2 0 _ rfl).1 n (fun j => .int (M.1 i j))) (fun q => by cases q) (by show ¬ (x < 0 ∨ (arrV _ _ _).slots.size ≤ _); rw [arrV_size]; exact hin) rfl rfl hdg fun H1 e z oq => ?_
  refine kk H1 _ (hP.set hi ?_ oq) (hS.put z oq ⟨i, hi, rfl⟩)
  rw [hn]
  show H1[ad i]? = some (vp_cell _ _)
  rw [e]
  rw [vp_cell_i, vp_cell_i, arrV_store]
  congr 2
  funext q
  by_cases hq : q = x.toNatClampNeg
  · subst hq
    simp [updV, upd]
  · simp [updV, upd, hq]
theorem r_alen (C : cx p s m args meth c cc nL rt own G) (hP : wd G I ad M H) (hi : I i) {n : Nat} (hn : isI i n) {v : Int32} (hv : Int32.ofNat n = v) (hdg : decode cc pc = .ok (.arraylength, 1))
    (kk : W p l e R s m args below meth c H locs cells slots Q (F0 m (pc + 1) ls (.int v :: rest))) : W p l e R s m args below meth c H locs cells slots Q (F0 m pc ls (.ref (ad i) :: rest)) := by
  obtain ⟨hx, hb, -, hown, hts, -, -, hK, -⟩ := C
  have hP1 := hP.one hi
  unfold pic at hP1
  rw [hn] at hP1
  exact va_alen hx hb hK hP1 0 0 rfl rfl hv hdg kk
theorem r_alenL (C : cx p s m args meth c cc nL rt own G) (hP : wd G I ad M H) (hi : I (27, 0, 0, 0)) (hdg : decode cc pc = .ok (.arraylength, 1))
    (kk : W p l e R s m args below meth c H locs cells slots Q (F0 m (pc + 1) ls (.int 48 :: rest))) : W p l e R s m args below meth c H locs cells slots Q (F0 m pc ls (.ref (ad (27, 0, 0, 0)) :: rest)) := by
  obtain ⟨hx, hb, -, hown, hts, -, -, hK, -⟩ := C
  exact va_alen hx hb hK (hP.one hi) 0 1 rfl rfl rfl hdg kk
theorem rfs_lt {n : Nat} {g : Nat → Nat} {j : Nat} (h : j < n) : va_rf (rfs n g j) = .ref (g j) := by
  unfold rfs
  rw [if_pos h]; rfl
theorem r_aald2 {s0 : Nat} (C : cx p s m args meth c cc nL rt own G) (hP : wd G I ad M H) (hi : I (2, s0, 0, 0)) {x : Int32} (hin : vp_in x 6) (hdg : decode cc pc = .ok (.aaload, 1))
    (kk : W p l e R s m args below meth c H locs cells slots Q (F0 m (pc + 1) ls (.ref (ad (3, s0, x.toNatClampNeg, 0)) :: rest))) : W p l e R s m args below meth c H locs cells slots Q (F0 m pc ls (.int x :: .ref (ad (2, s0, 0, 0)) :: rest)) := by
  obtain ⟨hx, hb, -, hown, hts, -, -, hK, -⟩ := C
  exact va_aldq (C := RX0) hx hb hK (hP.one hi) 0 3 rfl rfl hin hdg (by rw [rfs_lt (in_lt hin)]; exact kk)
theorem r_aald6 {s0 b0 : Nat} (C : cx p s m args meth c cc nL rt own G) (hP : wd G I ad M H) (hi : I (6, s0, b0, 0)) {x : Int32} (hin : vp_in x 4) (hdg : decode cc pc = .ok (.aaload, 1))
    (kk : W p l e R s m args below meth c H locs cells slots Q (F0 m (pc + 1) ls (.ref (ad (7, s0, b0, x.toNatClampNeg)) :: rest))) : W p l e R s m args below meth c H locs cells slots Q (F0 m pc ls (.int x :: .ref (ad (6, s0, b0, 0)) :: rest)) := by
  obtain ⟨hx, hb, -, hown, hts, -, -, hK, -⟩ := C
  exact va_aldq (C := RX6) hx hb hK (hP.one hi) 0 5 rfl rfl hin hdg (by rw [rfs_lt (in_lt hin)]; exact kk)
theorem r_aald4 {s0 b0 : Nat} (C : cx p s m args meth c cc nL rt own G) (hP : wd G I ad M H) (hi : I (4, s0, b0, 0)) {x : Int32} (hin : vp_in x 8) (hdg : decode cc pc = .ok (.aaload, 1))
    (kk : W p l e R s m args below meth c H locs cells slots Q (F0 m (pc + 1) ls (.ref (ad (5, s0, b0, x.toNatClampNeg)) :: rest))) : W p l e R s m args below meth c H locs cells slots Q (F0 m pc ls (.int x :: .ref (ad (4, s0, b0, 0)) :: rest)) := by
  obtain ⟨hx, hb, -, hown, hts, -, -, hK, -⟩ := C
  have hP1 : H[ad (4, s0, b0, 0)]? = some (vp_cell (G.2 6) (8, .inr (.inr (.inr (.inr (rfs 8 fun j => ad (5, s0, b0, j))))))) := hP.1 _ hi
  have hlt := in_lt hin
  refine W.aald (v := va_rf (rfs 8 (fun j => ad (5, s0, b0, j)) x.toNatClampNeg)) (ty := .array .int) hx hb hP1 ((hK.2 6 _ rfl).1 8 (fun j => va_rf (rfs 8 (fun j => ad (5, s0, b0, j)) j))) rfl (fun q => by cases q) (by show ¬ (x < 0 ∨ (arrV _ _ _).slots.size ≤ _); rw [arrV_size]; exact hin) (by show (arrV _ _ _).slots[_]? = _; rw [arrV_read _ _ hlt]) rfl rfl hdg ?_
  rw [rfs_lt hlt]
  exact kk
theorem r_aald10 (C : cx p s m args meth c cc nL rt own G) (hP : wd G I ad M H) (hi : I (10, 0, 0, 0)) {x : Int32} (hin : vp_in x 2) (hdg : decode cc pc = .ok (.aaload, 1))
    (kk : W p l e R s m args below meth c H locs cells slots Q (F0 m (pc + 1) ls (va_rf (if M.1 (10, 0, 0, 0) x.toNatClampNeg = 0 then none else some (ad (1, x.toNatClampNeg + 1, 0, 0))) :: rest))) : W p l e R s m args below meth c H locs cells slots Q (F0 m pc ls (.int x :: .ref (ad (10, 0, 0, 0)) :: rest)) := by
  obtain ⟨hx, hb, -, hown, hts, -, -, hK, -⟩ := C
  exact va_aldq (C := RX5) hx hb hK (hP.one hi) 0 4 rfl rfl hin hdg kk
theorem r_lald (C : cx p s m args meth c cc nL rt own G) (hP : wd G I ad M H) (hi : I (27, 0, 0, 0)) {x : Int32} (hin : vp_in x 48) (hdg : decode cc pc = .ok (.laload, 1))
    (kk : W p l e R s m args below meth c H locs cells slots Q (F0 m (pc + 1) ls (.long (M.2 x.toNatClampNeg) :: rest))) : W p l e R s m args below meth c H locs cells slots Q (F0 m pc ls (.int x :: .ref (ad (27, 0, 0, 0)) :: rest)) := by
  obtain ⟨hx, hb, -, hown, hts, -, -, hK, -⟩ := C
  exact va_lald hx hb hK (hP.one hi) 0 1 rfl rfl hin hdg kk
theorem g_last {D : va_G} {cl : List vw_C} {tys : List (ClassId × FieldType)} {a n t0 : Nat} {cA : ClassId} {f : Nat → Int64} {x : Int32} {v : Int64} (hx : p.tables.exec = Jvm.exec) (hb : c.code = cc) (hK : va_K D cl tys s) (ht : tys[t0]? = some (cA, .long)) (hcell : H[a]? = some (vp_cell cA (n, .inr (.inl f)))) (hin : vp_in x n) (hdg : decode cc pc = .ok (.lastore, 1))
    (kk : ∀ (H1 : Heap) (k : Nat), H1[a]? = some (vp_cell cA (n, .inr (.inl (vp_updL f x.toNatClampNeg v)))) → H1.size = H.size → (∀ q : Nat, q ≠ a → H1[q]? = H[q]?) → W p l e R s m args below meth c H1 (locs ++ [⟨a, k⟩]) cells slots Q (F0 m (pc + 1) ls rest)) : W p l e R s m args below meth c H locs cells slots Q (F0 m pc ls (.long v :: .int x :: .ref a :: rest)) := by
  refine W.last hx hb hcell ((hK.2 t0 _ ht).1 n (fun j => .long (f j))) (fun q => by cases q) (by show ¬ (x < 0 ∨ (arrV _ _ _).slots.size ≤ _); rw [arrV_size]; exact hin) rfl rfl hdg fun H1 e z oq => ?_
  refine kk H1 _ ?_ z oq
  rw [e]
  rw [vp_cell_l, vp_cell_l, arrV_store]
  congr 2
  funext q
  by_cases hq : q = x.toNatClampNeg
  · subst hq
    simp [updV, vp_updL]
  · simp [updV, vp_updL, hq]
theorem r_last (C : cx p s m args meth c cc nL rt own G) (hP : wd G I ad M H) (hS : va_S (fA I ad) s.heap H locs) (hi : I (27, 0, 0, 0)) (hI : ∀ j, I j → j.1 = 27 → j = (27, 0, 0, 0)) {x : Int32} {v : Int64} (hin : vp_in x 48) (hdg : decode cc pc = .ok (.lastore, 1))
    (kk : ∀ (H1 : Heap) (locs1 : List Loc), wd G I ad (ml M x.toNatClampNeg v) H1 → va_S (fA I ad) s.heap H1 locs1 → W p l e R s m args below meth c H1 locs1 cells slots Q (F0 m (pc + 1) ls rest)) : W p l e R s m args below meth c H locs cells slots Q (F0 m pc ls (.long v :: .int x :: .ref (ad (27, 0, 0, 0)) :: rest)) := by
  obtain ⟨hx, hb, -, hown, hts, -, -, hK, -⟩ := C
  have hP1 := hP.1 _ hi
  exact g_last (t0 := 1) hx hb hK rfl hP1 hin hdg fun H1 k e1 z oq => kk H1 _ (hP.setL hi hI e1 oq) (hS.put z oq ⟨_, hi, rfl⟩)
theorem r_zald (C : cx p s m args meth c cc nL rt own G) (hP : wd G I ad M H) (hi : I (46, 0, 0, 0)) {x : Int32} (hin : vp_in x 2) (hdg : decode cc pc = .ok (.baload, 1))
    (kk : W p l e R s m args below meth c H locs cells slots Q (F0 m (pc + 1) ls (.int (M.1 (46, 0, 0, 0) x.toNatClampNeg) :: rest))) : W p l e R s m args below meth c H locs cells slots Q (F0 m pc ls (.int x :: .ref (ad (46, 0, 0, 0)) :: rest)) := by
  obtain ⟨hx, hb, -, hown, hts, -, -, hK, -⟩ := C
  exact va_zald hx hb hK (hP.one hi) 0 2 rfl rfl hin hdg kk
theorem r_zast (C : cx p s m args meth c cc nL rt own G) (hP : wd G I ad M H) (hS : va_S (fA I ad) s.heap H locs) (hi : I (46, 0, 0, 0)) {x v : Int32} (hin : vp_in x 2) (hdg : decode cc pc = .ok (.bastore, 1))
    (kk : ∀ (H1 : Heap) (locs1 : List Loc), wd G I ad (mu M (46, 0, 0, 0) x.toNatClampNeg (vp_nar .boolean v)) H1 → va_S (fA I ad) s.heap H1 locs1 → W p l e R s m args below meth c H1 locs1 cells slots Q (F0 m (pc + 1) ls rest)) : W p l e R s m args below meth c H locs cells slots Q (F0 m pc ls (.int v :: .int x :: .ref (ad (46, 0, 0, 0)) :: rest)) := by
  obtain ⟨hx, hb, -, hown, hts, -, -, hK, -⟩ := C
  have hP1 : H[ad (46, 0, 0, 0)]? = some (vp_cell (G.2 2) (2, .inl (M.1 (46, 0, 0, 0)))) := hP.1 _ hi
  refine W.zast hx hb hP1 ((hK.2 2 _ rfl).1 2 (fun j => .int (M.1 (46, 0, 0, 0) j))) (fun q => by cases q) (by show ¬ (x < 0 ∨ (arrV _ _ _).slots.size ≤ _); rw [arrV_size]; exact hin) rfl rfl hdg fun H1 e z oq => ?_
  refine kk H1 _ (hP.set hi ?_ oq) (hS.put z oq ⟨_, hi, rfl⟩)
  show H1[ad (46, 0, 0, 0)]? = some (vp_cell _ _)
  rw [e]
  rw [vp_cell_i, vp_cell_i, arrV_store]
  congr 2
  funext q
  by_cases hq : q = x.toNatClampNeg
  · subst hq
    simp [updV, upd]
    try rfl
  · simp [updV, upd, hq]
theorem r_iret {Qp : Int32 → Mem → Prop} {v : Int32} (C : cx p s m args meth c cc nL (some .int) own G) (hP : wd G I ad M H) (hS : va_S (fA I ad) s.heap H locs) (hq : Qp v M) (hdg : decode cc pc = .ok (.ireturn, 1)) : W p l e R s m args below meth c H locs cells slots (MQ below (qI G I ad Qp) args s cells slots (fA I ad)) (F0 m pc ls [.int v]) := by
  obtain ⟨hx, hb, -, -, -, hr, hlocks, -⟩ := C
  exact W.iret hx hb hr (fun t ht _ => ⟨⟨v, M, rfl, hq, by show wd G I ad M t.heap; rw [ht]; exact hP⟩, hS.F ht⟩) hS.2.2 hdg hlocks
theorem r_zret {Qp : Int32 → Mem → Prop} {v : Int32} (C : cx p s m args meth c cc nL (some .boolean) own G) (hP : wd G I ad M H) (hS : va_S (fA I ad) s.heap H locs) (hv : v = 0 ∨ v = 1) (hq : Qp v M) (hdg : decode cc pc = .ok (.ireturn, 1)) : W p l e R s m args below meth c H locs cells slots (MQ below (qI G I ad Qp) args s cells slots (fA I ad)) (F0 m pc ls [.int v]) := by
  obtain ⟨hx, hb, -, -, -, hr, hlocks, -⟩ := C
  exact W.zret hx hb hr (by rcases hv with rfl | rfl <;> rfl) (fun t ht _ => ⟨⟨v, M, rfl, hq, by show wd G I ad M t.heap; rw [ht]; exact hP⟩, hS.F ht⟩) hS.2.2 hdg hlocks
theorem r_vret {Qp : Mem → Prop} (C : cx p s m args meth c cc nL none own G) (hP : wd G I ad M H) (hS : va_S (fA I ad) s.heap H locs) (hq : Qp M) (hdg : decode cc pc = .ok (.return_, 1)) : W p l e R s m args below meth c H locs cells slots (MQ below (qV G I ad Qp) args s cells slots (fA I ad)) (F0 m pc ls []) := by
  obtain ⟨hx, hb, -, -, -, hr, hlocks, -⟩ := C
  exact W.vret hx hb hr (fun t ht _ => ⟨⟨M, rfl, hq, by show wd G I ad M t.heap; rw [ht]; exact hP⟩, hS.F ht⟩) hS.2.2 hdg hlocks
theorem r_max (C : cx p s m args meth c cc nL rt own G) (hls : ls.size = nL) (hlink : Cond.methodLink own index Lib.Math.max.name ∈ WG) (hstat : Cond.static Lib.Math.max.name ∈ WG) (hini : Cond.initialized "java/lang/Math" ∈ WG) (hcode : Cond.code Lib.Math.max.name Lib.Math.max.code 2 (some .int) ∈ WG) (hframes : 1 ≤ R.frames) (hlocals : (rest.map fun v => v.category).sum + 13 ≤ R.locals) (hc : cells ≤ R.cells) (hs : slots ≤ R.slots) {x y : Int32} (hdg : decode cc pc = .ok (.invokestatic index, 3))
    (kk : W p l e R s m args below meth c H locs cells slots Q (F0 m (pc + 3) ls (.int (if x < y then y else x) :: rest))) : W p l e R s m args below meth c H locs cells slots Q (F0 m pc ls (.int y :: .int x :: rest)) := by
  obtain ⟨hx, hb, hml, hown, hts, -⟩ := C
  exact va_mmax hx hb (by rw [hml, hls]) hown (hts _ hlink) (hts _ hstat) (hts _ hini) (hts _ hcode) hframes hlocals hc hs hdg kk
theorem r_min (C : cx p s m args meth c cc nL rt own G) (hls : ls.size = nL) (hlink : Cond.methodLink own index Lib.Math.min.name ∈ WG) (hstat : Cond.static Lib.Math.min.name ∈ WG) (hini : Cond.initialized "java/lang/Math" ∈ WG) (hcode : Cond.code Lib.Math.min.name Lib.Math.min.code 2 (some .int) ∈ WG) (hframes : 1 ≤ R.frames) (hlocals : (rest.map fun v => v.category).sum + 13 ≤ R.locals) (hc : cells ≤ R.cells) (hs : slots ≤ R.slots) {x y : Int32} (hdg : decode cc pc = .ok (.invokestatic index, 3))
    (kk : W p l e R s m args below meth c H locs cells slots Q (F0 m (pc + 3) ls (.int (if y < x then y else x) :: rest))) : W p l e R s m args below meth c H locs cells slots Q (F0 m pc ls (.int y :: .int x :: rest)) := by
  obtain ⟨hx, hb, hml, hown, hts, -⟩ := C
  exact va_mmin hx hb (by rw [hml, hls]) hown (hts _ hlink) (hts _ hstat) (hts _ hini) (hts _ hcode) hframes hlocals hc hs hdg kk
/-- a call of an instance method that answers an int, one that answers nothing; static ones; a nest mate's private static ones -/
theorem r_cVI {y : MethodName} {by_ : ByteArray} {mL n : Nat} {rv : Option FieldType} {rm : Room} {As : List Value} {Cn : String} {Qp : Int32 → Mem → Prop} {st0 : List Value} {ci N : Nat} {T : u_T} {fs : List Value} (C : cx p s m args meth c cc nL rt own G) (hls : ls.size = nL) (hP : wd G I ad M H) (hS : va_S (fA I ad) s.heap H locs)
    (hM : Met l y (wW y by_ mL rv) rm (va_Pc (.ref (ad i) :: As) (fun U => wd G I ad M U.heap ∧ wK G U)) (qI G I ad Qp) 0 0 (fA I ad)) (hi : I i) (he : pic G ad M i = .inr (ci, fs)) (hc : vwCl[ci]? = some (Cn, T, N))
    (hl : Cond.methodLink own index y ∈ WG) (h1 : Cond.instanceMethod y ∈ WG) (h2 : Cond.selects Cn y y ∈ WG) (h3 : Cond.initialized y.cls ∈ WG) (h4 : Cond.code y by_ mL rv ∈ WG) (hrm : rm.cells = 0 ∧ rm.slots = 0)
    (hd : y.cls ≠ "java/lang/invoke/MethodHandle" ∧ y.cls ≠ "java/lang/invoke/VarHandle" ∧ (parseMethodDescriptor y.desc).map (fun d => d.parameters.length) = some n) (hn : As.length = n) (hst : st0 = As.reverse ++ .ref (ad i) :: rest) (hR : rm.frames + 1 ≤ R.frames ∧ 8 + (mL + 11) + rm.locals ≤ R.locals) (hrest : (rest.map fun v => v.category).sum ≤ 8) (hcs : cells ≤ R.cells ∧ slots ≤ R.slots) (hdg : decode cc pc = .ok (.invokevirtual index, 3))
    (kk : ∀ (r : Int32) (M1 : Mem) (H1 : Heap) (locs1 : List Loc), Qp r M1 → wd G I ad M1 H1 → va_S (fA I ad) s.heap H1 locs1 → W p l e R s m args below meth c H1 locs1 cells slots Q (F0 m (pc + 3) ls (.int r :: rest))) : W p l e R s m args below meth c H locs cells slots Q (F0 m pc ls st0) := by
  obtain ⟨hx, hb, hml, hown, hts, -, -, hK⟩ := C
  have hP1 := hP.one hi
  rw [he] at hP1
  have hcw : CallW R s args own Cn index y by_ mL rv (wW y by_ mL rv) rm 0 0 n := ⟨callB_of n (Ts := WG) hts (fun w hw => (List.mem_cons.mp hw).elim (fun e => by subst e; exact ⟨h4, wg_good h4⟩) (fun hw => ⟨hw, wg_good hw⟩)) rfl hrm.1 hrm.2 (hts _ h3) (hts _ hl) hd hR, hts _ h1, hts _ h2⟩
  refine va_calli (mc := 0) (ms := 0) (va_runV (As := As) (rest := rest) ⟨hx, hb, hml, hown, hts⟩ hM hcw ⟨wK.blind, va_recv hK.1 hP1 (q0 := 0) hc rfl, fun U hU hW => ⟨rfl, by rw [hU]; exact hP, hK.warm hW⟩⟩ rfl hn hls hst (lv_room hrest) hdg hcs) hS (fun q _ h => h) (fun q h => h) (fun r u t H1 locs1 ht hvm hw hB hz1 hk1 hS1 => ?_)
  exact kk r u H1 locs1 hw (by rw [← ht]; exact hB) hS1
theorem r_cVV {y : MethodName} {by_ : ByteArray} {mL n : Nat} {rv : Option FieldType} {rm : Room} {As : List Value} {Cn : String} {Qp : Mem → Prop} {st0 : List Value} {ci N : Nat} {T : u_T} {fs : List Value} (C : cx p s m args meth c cc nL rt own G) (hls : ls.size = nL) (hP : wd G I ad M H) (hS : va_S (fA I ad) s.heap H locs)
    (hM : Met l y (wW y by_ mL rv) rm (va_Pc (.ref (ad i) :: As) (fun U => wd G I ad M U.heap ∧ wK G U)) (qV G I ad Qp) 0 0 (fA I ad)) (hi : I i) (he : pic G ad M i = .inr (ci, fs)) (hc : vwCl[ci]? = some (Cn, T, N))
    (hl : Cond.methodLink own index y ∈ WG) (h1 : Cond.instanceMethod y ∈ WG) (h2 : Cond.selects Cn y y ∈ WG) (h3 : Cond.initialized y.cls ∈ WG) (h4 : Cond.code y by_ mL rv ∈ WG) (hrm : rm.cells = 0 ∧ rm.slots = 0)
    (hd : y.cls ≠ "java/lang/invoke/MethodHandle" ∧ y.cls ≠ "java/lang/invoke/VarHandle" ∧ (parseMethodDescriptor y.desc).map (fun d => d.parameters.length) = some n) (hn : As.length = n) (hst : st0 = As.reverse ++ .ref (ad i) :: rest) (hR : rm.frames + 1 ≤ R.frames ∧ 8 + (mL + 11) + rm.locals ≤ R.locals) (hrest : (rest.map fun v => v.category).sum ≤ 8) (hcs : cells ≤ R.cells ∧ slots ≤ R.slots) (hdg : decode cc pc = .ok (.invokevirtual index, 3))
    (kk : ∀ (M1 : Mem) (H1 : Heap) (locs1 : List Loc), Qp M1 → wd G I ad M1 H1 → va_S (fA I ad) s.heap H1 locs1 → W p l e R s m args below meth c H1 locs1 cells slots Q (F0 m (pc + 3) ls rest)) : W p l e R s m args below meth c H locs cells slots Q (F0 m pc ls st0) := by
  obtain ⟨hx, hb, hml, hown, hts, -, -, hK⟩ := C
  have hP1 := hP.one hi
  rw [he] at hP1
  have hcw : CallW R s args own Cn index y by_ mL rv (wW y by_ mL rv) rm 0 0 n := ⟨callB_of n (Ts := WG) hts (fun w hw => (List.mem_cons.mp hw).elim (fun e => by subst e; exact ⟨h4, wg_good h4⟩) (fun hw => ⟨hw, wg_good hw⟩)) rfl hrm.1 hrm.2 (hts _ h3) (hts _ hl) hd hR, hts _ h1, hts _ h2⟩
  refine va_callv (mc := 0) (ms := 0) (va_runV (As := As) (rest := rest) ⟨hx, hb, hml, hown, hts⟩ hM hcw ⟨wK.blind, va_recv hK.1 hP1 (q0 := 0) hc rfl, fun U hU hW => ⟨rfl, by rw [hU]; exact hP, hK.warm hW⟩⟩ rfl hn hls hst (lv_room hrest) hdg hcs) hS (fun q _ h => h) (fun q h => h) (fun u t H1 locs1 ht hvm hw hB hz1 hk1 hS1 => ?_)
  exact kk u H1 locs1 hw (by rw [← ht]; exact hB) hS1
theorem r_cSI {y : MethodName} {by_ : ByteArray} {mL n : Nat} {rv : Option FieldType} {rm : Room} {As : List Value} {Qp : Int32 → Mem → Prop} {st0 : List Value} (C : cx p s m args meth c cc nL rt own G) (hls : ls.size = nL) (hP : wd G I ad M H) (hS : va_S (fA I ad) s.heap H locs)
    (hM : Met l y (wW y by_ mL rv) rm (va_Pc As (fun U => wd G I ad M U.heap ∧ wK G U)) (qI G I ad Qp) 0 0 (fA I ad))
    (hl : Cond.methodLink own index y ∈ WG) (h1 : Cond.static y ∈ WG) (h3 : Cond.initialized y.cls ∈ WG) (h4 : Cond.code y by_ mL rv ∈ WG) (hrm : rm.cells = 0 ∧ rm.slots = 0)
    (hd : y.cls ≠ "java/lang/invoke/MethodHandle" ∧ y.cls ≠ "java/lang/invoke/VarHandle" ∧ (parseMethodDescriptor y.desc).map (fun d => d.parameters.length) = some n) (hn : As.length = n) (hst : st0 = As.reverse ++ rest) (hR : rm.frames + 1 ≤ R.frames ∧ 8 + (mL + 11) + rm.locals ≤ R.locals) (hrest : (rest.map fun v => v.category).sum ≤ 8) (hcs : cells ≤ R.cells ∧ slots ≤ R.slots) (hdg : decode cc pc = .ok (.invokestatic index, 3))
    (kk : ∀ (r : Int32) (M1 : Mem) (H1 : Heap) (locs1 : List Loc), Qp r M1 → wd G I ad M1 H1 → va_S (fA I ad) s.heap H1 locs1 → W p l e R s m args below meth c H1 locs1 cells slots Q (F0 m (pc + 3) ls (.int r :: rest))) : W p l e R s m args below meth c H locs cells slots Q (F0 m pc ls st0) := by
  obtain ⟨hx, hb, hml, hown, hts, -, -, hK⟩ := C
  have hcw : CallB R s args own index y by_ mL rv (wW y by_ mL rv) rm 0 0 n ∧ (Cond.static y).before args s = true := ⟨callB_of n (Ts := WG) hts (fun w hw => (List.mem_cons.mp hw).elim (fun e => by subst e; exact ⟨h4, wg_good h4⟩) (fun hw => ⟨hw, wg_good hw⟩)) rfl hrm.1 hrm.2 (hts _ h3) (hts _ hl) hd hR, hts _ h1⟩
  refine va_calli (mc := 0) (ms := 0) (va_runS (As := As) (rest := rest) ⟨hx, hb, hml, hown, hts⟩ hM hcw ⟨wK.blind, fun U hU hW => ⟨rfl, by rw [hU]; exact hP, hK.warm hW⟩⟩ rfl hn hls hst (lv_room hrest) hdg hcs) hS (fun q _ h => h) (fun q h => h) (fun r u t H1 locs1 ht hvm hw hB hz1 hk1 hS1 => ?_)
  exact kk r u H1 locs1 hw (by rw [← ht]; exact hB) hS1
theorem r_cNI {y : MethodName} {by_ : ByteArray} {mL n : Nat} {rv : Option FieldType} {rm : Room} {As : List Value} {Qp : Int32 → Mem → Prop} {st0 : List Value} (C : cx p s m args meth c cc nL rt own G) (hls : ls.size = nL) (hP : wd G I ad M H) (hS : va_S (fA I ad) s.heap H locs)
    (hM : Met l y (wW y by_ mL rv) rm (va_Pc As (fun U => wd G I ad M U.heap ∧ wK G U)) (qI G I ad Qp) 0 0 (fA I ad))
    (hl : (own, index, y) ∈ nestL) (h1 : Cond.static y ∈ WG) (h3 : Cond.initialized y.cls ∈ WG) (h4 : Cond.code y by_ mL rv ∈ WG) (hrm : rm.cells = 0 ∧ rm.slots = 0)
    (hd : y.cls ≠ "java/lang/invoke/MethodHandle" ∧ y.cls ≠ "java/lang/invoke/VarHandle" ∧ (parseMethodDescriptor y.desc).map (fun d => d.parameters.length) = some n) (hn : As.length = n) (hst : st0 = As.reverse ++ rest) (hR : rm.frames + 1 ≤ R.frames ∧ 8 + (mL + 11) + rm.locals ≤ R.locals) (hrest : (rest.map fun v => v.category).sum ≤ 8) (hcs : cells ≤ R.cells ∧ slots ≤ R.slots) (hdg : decode cc pc = .ok (.invokestatic index, 3))
    (kk : ∀ (r : Int32) (M1 : Mem) (H1 : Heap) (locs1 : List Loc), Qp r M1 → wd G I ad M1 H1 → va_S (fA I ad) s.heap H1 locs1 → W p l e R s m args below meth c H1 locs1 cells slots Q (F0 m (pc + 3) ls (.int r :: rest))) : W p l e R s m args below meth c H locs cells slots Q (F0 m pc ls st0) := by
  obtain ⟨hx, hb, hml, hown, hts, -, -, hK⟩ := C
  have hcw : va_CN R s args own index y "BlockTruths" by_ mL rv (wW y by_ mL rv) rm 0 0 n ∧ (Cond.static y).before args s = true ∧ True := ⟨va_cnB n (Ts := WG) hts (fun w hw => (List.mem_cons.mp hw).elim (fun e => by subst e; exact ⟨h4, wg_good h4⟩) (fun hw => ⟨hw, wg_good hw⟩)) rfl hrm.1 hrm.2 (hK.2 _ hl) (hts _ h3) hd hR, hts _ h1, trivial⟩
  refine va_calli (mc := 0) (ms := 0) (va_runSN (As := As) (rest := rest) ⟨hx, hb, hml, hown, hts⟩ hM hcw ⟨wK.blind, fun U hU hW => ⟨rfl, by rw [hU]; exact hP, hK.warm hW⟩⟩ rfl hn hls hst (lv_room hrest) hdg hcs) hS (fun q _ h => h) (fun q h => h) (fun r u t H1 locs1 ht hvm hw hB hz1 hk1 hS1 => ?_)
  exact kk r u H1 locs1 hw (by rw [← ht]; exact hB) hS1
end RW
/-- a contract out of the walk of the body -/
theorem met_of {l : Launch} {y : MethodName} {cc : ByteArray} {mL : Nat} {rt : Option FieldType} {rm : Room} {G : GG} {I : ix → Prop} {ad : ix → Nat} {M : Mem} {vs : List Value} {Qc : Array Value → State → Outcome → State → Prop} (hy : plainName y.cls = true) (hlen : (lg_sl vs).length ≤ mL)
    (body : ∀ (p : Program) (e : Env) (s : State) (m : MethodId) (below : List Frame) (meth : Method) (c : Code), cx p s m vs.toArray meth c cc mL rt y.cls G → wd G I ad M s.heap → va_S (fA I ad) s.heap s.heap [] → ∀ ls : Array Slot, lv_has ls mL (lv_args 0 vs) → W p l e rm s m vs.toArray below meth c s.heap [] 0 0 (MQ below Qc vs.toArray s 0 0 (fA I ad)) (F0 m 0 ls [])) :
    Met l y (wW y cc mL rt) rm (va_Pc vs (fun U => wd G I ad M U.heap ∧ wK G U)) Qc 0 0 (fA I ad) := by
  refine Met.ofW (cc := cc) (maxL := mL) (ret := rt) hy rfl ?_
  intro p e s m args below meth c s₁ B hml hv
  obtain ⟨rfl, hP, hK⟩ := hv
  have hts := atoms_spec (ws := wW y cc mL rt) B.pre
  rw [lg_entry_eq]
  exact body p e s m below meth c ⟨B.exec, B.bytes, hml, findClass_of_methodNamed B.named, wW_wg hts, B.returns, B.notSynchronized, hK⟩ hP va_S.rf _ (lv_entry vs hlen)
end
section
section RV
variable {p : Program} {l : Launch} {e : Env} {R : Room} {s : State} {m : MethodId} {args : Array Value} {below : List Frame} {meth : Method} {c : Code} {H : Heap} {locs : List Loc} {cells slots : Nat} {Q : State → Prop}
variable {cc : ByteArray} {pc nL index : Nat} {ls : Array Slot} {rest : List Value} {rt : Option FieldType} {own : String} {G : GG} {I : ix → Prop} {ad : ix → Nat} {M : Mem} {i j : ix}
theorem r_copy (C : cx p s m args meth c cc nL rt own G) (hls : ls.size = nL) (hP : wd G I ad M H) (hS : va_S (fA I ad) s.heap H locs) (hi : I i) (hj : I j) {n0 n1 : Nat} (hn0 : isI i n0) (hn1 : isI j n1) (hlink : Cond.methodLink own index arraycopyName ∈ WG) (hnat : Cond.native arraycopyName ∈ WG) (hstat : Cond.static arraycopyName ∈ WG) (hini : Cond.initialized "java/lang/System" ∈ WG)
    {sp dp n : Int32} (h1 : ¬ sp < 0) (h2 : ¬ dp < 0) (h3 : ¬ n < 0) (h4 : sp.toNatClampNeg + n.toNatClampNeg ≤ n0) (h5 : dp.toNatClampNeg + n.toNatClampNeg ≤ n1) {a b k : Nat} (ha : sp.toNatClampNeg = a) (hb2 : dp.toNatClampNeg = b) (hk : n.toNatClampNeg = k)
    (hframes : 1 ≤ R.frames) (hlocals : (rest.map fun v => v.category).sum + (nativeFrameWords "java/lang/System" "arraycopy" 5 + 11) ≤ R.locals) (hdg : decode cc pc = .ok (.invokestatic index, 3))
    (kk : ∀ (H1 : Heap) (locs1 : List Loc), wd G I ad (mr M j (va_cpy (M.1 i) (M.1 j) a b k)) H1 → va_S (fA I ad) s.heap H1 locs1 → W p l e R s m args below meth c H1 locs1 cells slots Q (F0 m (pc + 3) ls rest)) : W p l e R s m args below meth c H locs cells slots Q (F0 m pc ls (.int n :: .int dp :: .ref (ad j) :: .int sp :: .ref (ad i) :: rest)) := by
  subst ha hb2 hk
  obtain ⟨hx, hb, hml, hown, hts, -, -, hK, -⟩ := C
  have nn : ∀ z : Int32, ¬ z < 0 → z.toInt = (z.toNatClampNeg : Int) := by
    intro z hz
    have hz0 : (0 : Int) ≤ z.toInt := by
      have := Int32.not_lt.mp hz
      simpa using Int32.le_iff_toInt_le.mp this
    show z.toInt = ((z.toInt.toNat : Nat) : Int)
    omega
  intro T hT X
  have hc0 : H[ad i]? = some (vp_cell (G.2 0) (n0, .inl (M.1 i))) := by
    have h := hP.1 i hi
    unfold pic at h
    rw [hn0] at h
    exact h
  have hc1 : H[ad j]? = some (vp_cell (G.2 0) (n1, .inl (M.1 j))) := by
    have h := hP.1 j hj
    unfold pic at h
    rw [hn1] at h
    exact h
  obtain ⟨-, k0, hk0, cm0, hkk0⟩ := (hK.2 0 _ rfl).1 n0 (fun q => .int (M.1 i q))
  obtain ⟨-, k1, hk1, cm1, hkk1⟩ := (hK.2 0 _ rfl).1 n1 (fun q => .int (M.1 j q))
  obtain ⟨vm', X', step⟩ := X.arraycopy hx hown (hts _ hlink) (hts _ hnat) (hts _ hstat) (hts _ hini) (src := ad i) (dst := ad j) (cs := vp_cell (G.2 0) (n0, .inl (M.1 i))) (cd := vp_cell (G.2 0) (n1, .inl (M.1 j))) (srcPos := sp) (destPos := dp) (n := n) (by rw [hT]; exact hc0) (by rw [hT]; exact hc1)
    (fun _ h => by cases h) (fun _ h => by cases h) (fun h => by cases h) (fun h => by cases h) hk0 hk1 hkk0 hkk1 (by simp [refKind]) h1 h2 h3
    (by rw [nn sp h1, nn n h3]; show ¬ _ > ((arrV (G.2 0) n0 (fun q => .int (M.1 i q))).slots.size : Int); rw [arrV_size]; omega)
    (by rw [nn dp h2, nn n h3]; show ¬ _ > ((arrV (G.2 0) n1 (fun q => .int (M.1 j q))).slots.size : Int); rw [arrV_size]; omega)
    (fun vm₁ _ q hq => by
      have e : (vp_cell (G.2 0) (n0, .inl (M.1 i))).slots.getD (sp.toNatClampNeg + q) .null = .int (M.1 i (sp.toNatClampNeg + q)) := by
        show (arrV (G.2 0) n0 (fun q => .int (M.1 i q))).slots.getD _ _ = _
        rw [Array.getD_eq_getD_getElem?, arrV_read _ _ (by omega)]
        rfl
      refine ⟨?_, ?_⟩
      · rw [e]
        rfl
      · rw [e]
        exact trivial)
    (g := F0 m pc ls (.int n :: .int dp :: .ref (ad j) :: .int sp :: .ref (ad i) :: rest)) rfl (by rw [hml, ← hls]) (rest := rest) rfl (by rw [hb]; exact hdg) hframes (by show 2 * 0 + _ + _ ≤ _; omega)
  have e1 : copied (vp_cell (G.2 0) (n0, .inl (M.1 i))) (vp_cell (G.2 0) (n1, .inl (M.1 j))) sp dp n = vp_cell (G.2 0) (n1, .inl (va_cpy (M.1 i) (M.1 j) sp.toNatClampNeg dp.toNatClampNeg n.toNatClampNeg)) := va_copied (fun z => .int z) (G.2 0) (G.2 0) (M.1 i) (M.1 j) h4
  rw [e1] at X' step
  have hl : ad j < H.size := (Array.getElem?_eq_some_iff.mp hc1).1
  have hheap : ((T.setVm vm').setCell (ad j) (vp_cell (G.2 0) (n1, .inl (va_cpy (M.1 i) (M.1 j) sp.toNatClampNeg dp.toNatClampNeg n.toNatClampNeg)))).heap = H.setIfInBounds (ad j) (vp_cell (G.2 0) (n1, .inl (va_cpy (M.1 i) (M.1 j) sp.toNatClampNeg dp.toNatClampNeg n.toNatClampNeg))) := by rw [← hT]; rfl
  have oq : ∀ q : Nat, q ≠ ad j → (H.setIfInBounds (ad j) (vp_cell (G.2 0) (n1, .inl (va_cpy (M.1 i) (M.1 j) sp.toNatClampNeg dp.toNatClampNeg n.toNatClampNeg))))[q]? = H[q]? := fun q hq => by simp [Array.getElem?_setIfInBounds, Ne.symm hq]
  obtain ⟨t, a1, b1⟩ := kk _ _ (hP.set hj (by rw [hn1]; show (H.setIfInBounds (ad j) _)[ad j]? = some _; simp [Array.getElem?_setIfInBounds, hl]) oq) ⟨by simp; exact hS.1, fun q g1 g2 => by
      rw [oq q (fun e => g2 (by rw [e]; exact ⟨j, hj, rfl⟩))]
      exact hS.2.1 q g1 g2, fun q hq => by
      rcases List.mem_append.mp hq with h | h
      · exact hS.2.2 q h
      · obtain ⟨z, -, hz⟩ := List.mem_map.mp h
        rw [← hz]
        exact ⟨j, hj, rfl⟩⟩ _ hheap X'
  exact ⟨t, step t a1, b1⟩
/-- with the place said as a number -/
theorem r_ialdK (C : cx p s m args meth c cc nL rt own G) (hP : wd G I ad M H) (hi : I i) {n : Nat} (hn : isI i n) {x : Int32} (hin : vp_in x n) {k : Nat} (hk : x.toNatClampNeg = k) (hdg : decode cc pc = .ok (.iaload, 1))
    (kk : W p l e R s m args below meth c H locs cells slots Q (F0 m (pc + 1) ls (.int (M.1 i k) :: rest))) : W p l e R s m args below meth c H locs cells slots Q (F0 m pc ls (.int x :: .ref (ad i) :: rest)) := by
  subst hk
  exact r_iald C hP hi hn hin hdg kk
theorem r_iastK (C : cx p s m args meth c cc nL rt own G) (hP : wd G I ad M H) (hS : va_S (fA I ad) s.heap H locs) (hi : I i) {n : Nat} (hn : isI i n) {x v : Int32} (hin : vp_in x n) {k : Nat} (hk : x.toNatClampNeg = k) (hdg : decode cc pc = .ok (.iastore, 1))
    (kk : ∀ (H1 : Heap) (locs1 : List Loc), wd G I ad (mu M i k v) H1 → va_S (fA I ad) s.heap H1 locs1 → W p l e R s m args below meth c H1 locs1 cells slots Q (F0 m (pc + 1) ls rest)) : W p l e R s m args below meth c H locs cells slots Q (F0 m pc ls (.int v :: .int x :: .ref (ad i) :: rest)) := by
  subst hk
  exact r_iast C hP hS hi hn hin hdg kk
end RV
theorem vpc {x : Int32} {n : Nat} (h : decide (¬ (x < 0 ∨ n ≤ x.toNatClampNeg)) = true) : vp_in x n := show ¬ (x < 0 ∨ n ≤ x.toNatClampNeg) from of_decide_eq_true h
theorem z_nar {v : Int32} (h : v = 0 ∨ v = 1) : narrow .boolean (.int v) = .int v := by rcases h with rfl | rfl <;> rfl
theorem z_fit {v : Int32} (h : v = 0 ∨ v = 1) : fits .boolean (.int v) = true := by rcases h with rfl | rfl <;> rfl
/-- what refers to what: a live cell's cells live -/
def clo (I : ix → Prop) : Prop :=
  (∀ s, I (1, s, 0, 0) → I (2, s, 0, 0)) ∧ (∀ s b, I (2, s, 0, 0) → b < 6 → I (3, s, b, 0)) ∧
  (∀ s b, I (3, s, b, 0) → I (4, s, b, 0) ∧ I (6, s, b, 0) ∧ I (7, s, b, 4)) ∧ (∀ s b r, I (4, s, b, 0) → r < 8 → I (5, s, b, r)) ∧ (∀ s b c, I (6, s, b, 0) → c < 4 → I (7, s, b, c)) ∧
  (∀ s b c, I (7, s, b, c) → I (8, s, b, c) ∧ I (9, s, b, c)) ∧
  (I (0, 0, 0, 0) → I (1, 0, 0, 0) ∧ I (10, 0, 0, 0) ∧ I (11, 0, 0, 0) ∧ I (18, 0, 0, 0) ∧ I (20, 0, 0, 0) ∧ I (24, 0, 0, 0) ∧ I (25, 0, 0, 0) ∧ I (26, 0, 0, 0) ∧ I (28, 0, 0, 0)) ∧
  (I (11, 0, 0, 0) → I (12, 0, 0, 0) ∧ I (13, 0, 0, 0) ∧ I (14, 0, 0, 0) ∧ I (15, 0, 0, 0) ∧ I (16, 0, 0, 0) ∧ I (17, 0, 0, 0)) ∧
  (I (18, 0, 0, 0) → I (11, 0, 0, 0) ∧ I (19, 0, 0, 0)) ∧ (I (20, 0, 0, 0) → I (21, 0, 0, 0) ∧ I (22, 0, 0, 0) ∧ I (23, 0, 0, 0) ∧ I (11, 0, 0, 0)) ∧
  (I (26, 0, 0, 0) → I (27, 0, 0, 0)) ∧ (I (29, 0, 0, 0) → ∀ k, 30 ≤ k → k ≤ 46 → I (k, 0, 0, 0)) ∧ (∀ j, I j → j.1 = 27 → j = (27, 0, 0, 0))
theorem cl_1_0 {I : ix → Prop} (h : clo I) {s0 : Nat} (hi : I (1, s0, 0, 0)) : I (2, s0, 0, 0) := h.1 s0 hi
theorem cl_2_e {I : ix → Prop} (h : clo I) {s0 x0 : Nat} (hi : I (2, s0, 0, 0)) (hx : x0 < 6) : I (3, s0, x0, 0) := h.2.1 s0 x0 hi hx
theorem cl_3_1 {I : ix → Prop} (h : clo I) {s0 b0 : Nat} (hi : I (3, s0, b0, 0)) : I (4, s0, b0, 0) := (h.2.2.1 s0 b0 hi).1
theorem cl_3_2 {I : ix → Prop} (h : clo I) {s0 b0 : Nat} (hi : I (3, s0, b0, 0)) : I (6, s0, b0, 0) := (h.2.2.1 s0 b0 hi).2.1
theorem cl_3_3 {I : ix → Prop} (h : clo I) {s0 b0 : Nat} (hi : I (3, s0, b0, 0)) : I (7, s0, b0, 4) := (h.2.2.1 s0 b0 hi).2.2
theorem cl_4_e {I : ix → Prop} (h : clo I) {s0 b0 x0 : Nat} (hi : I (4, s0, b0, 0)) (hx : x0 < 8) : I (5, s0, b0, x0) := h.2.2.2.1 s0 b0 x0 hi hx
theorem cl_6_e {I : ix → Prop} (h : clo I) {s0 b0 x0 : Nat} (hi : I (6, s0, b0, 0)) (hx : x0 < 4) : I (7, s0, b0, x0) := h.2.2.2.2.1 s0 b0 x0 hi hx
theorem cl_7_5 {I : ix → Prop} (h : clo I) {s0 b0 c0 : Nat} (hi : I (7, s0, b0, c0)) : I (8, s0, b0, c0) := (h.2.2.2.2.2.1 s0 b0 c0 hi).1
theorem cl_7_6 {I : ix → Prop} (h : clo I) {s0 b0 c0 : Nat} (hi : I (7, s0, b0, c0)) : I (9, s0, b0, c0) := (h.2.2.2.2.2.1 s0 b0 c0 hi).2
theorem cl_0_0 {I : ix → Prop} (h : clo I) (hi : I (0, 0, 0, 0)) : I (1, 0, 0, 0) := (h.2.2.2.2.2.2.1 hi).1
theorem cl_0_1 {I : ix → Prop} (h : clo I) (hi : I (0, 0, 0, 0)) : I (10, 0, 0, 0) := (h.2.2.2.2.2.2.1 hi).2.1
theorem cl_0_2 {I : ix → Prop} (h : clo I) (hi : I (0, 0, 0, 0)) : I (11, 0, 0, 0) := (h.2.2.2.2.2.2.1 hi).2.2.1
theorem cl_0_3 {I : ix → Prop} (h : clo I) (hi : I (0, 0, 0, 0)) : I (18, 0, 0, 0) := (h.2.2.2.2.2.2.1 hi).2.2.2.1
theorem cl_0_4 {I : ix → Prop} (h : clo I) (hi : I (0, 0, 0, 0)) : I (20, 0, 0, 0) := (h.2.2.2.2.2.2.1 hi).2.2.2.2.1
theorem cl_0_5 {I : ix → Prop} (h : clo I) (hi : I (0, 0, 0, 0)) : I (24, 0, 0, 0) := (h.2.2.2.2.2.2.1 hi).2.2.2.2.2.1
theorem cl_0_6 {I : ix → Prop} (h : clo I) (hi : I (0, 0, 0, 0)) : I (25, 0, 0, 0) := (h.2.2.2.2.2.2.1 hi).2.2.2.2.2.2.1
theorem cl_0_7 {I : ix → Prop} (h : clo I) (hi : I (0, 0, 0, 0)) : I (26, 0, 0, 0) := (h.2.2.2.2.2.2.1 hi).2.2.2.2.2.2.2.1
theorem cl_0_8 {I : ix → Prop} (h : clo I) (hi : I (0, 0, 0, 0)) : I (28, 0, 0, 0) := (h.2.2.2.2.2.2.1 hi).2.2.2.2.2.2.2.2
theorem cl_11_1 {I : ix → Prop} (h : clo I) (hi : I (11, 0, 0, 0)) : I (12, 0, 0, 0) := (h.2.2.2.2.2.2.2.1 hi).1
theorem cl_11_2 {I : ix → Prop} (h : clo I) (hi : I (11, 0, 0, 0)) : I (13, 0, 0, 0) := (h.2.2.2.2.2.2.2.1 hi).2.1
theorem cl_11_3 {I : ix → Prop} (h : clo I) (hi : I (11, 0, 0, 0)) : I (14, 0, 0, 0) := (h.2.2.2.2.2.2.2.1 hi).2.2.1
theorem cl_11_4 {I : ix → Prop} (h : clo I) (hi : I (11, 0, 0, 0)) : I (15, 0, 0, 0) := (h.2.2.2.2.2.2.2.1 hi).2.2.2.1
theorem cl_11_5 {I : ix → Prop} (h : clo I) (hi : I (11, 0, 0, 0)) : I (16, 0, 0, 0) := (h.2.2.2.2.2.2.2.1 hi).2.2.2.2.1
theorem cl_11_6 {I : ix → Prop} (h : clo I) (hi : I (11, 0, 0, 0)) : I (17, 0, 0, 0) := (h.2.2.2.2.2.2.2.1 hi).2.2.2.2.2
theorem cl_18_0 {I : ix → Prop} (h : clo I) (hi : I (18, 0, 0, 0)) : I (11, 0, 0, 0) := (h.2.2.2.2.2.2.2.2.1 hi).1
theorem cl_18_1 {I : ix → Prop} (h : clo I) (hi : I (18, 0, 0, 0)) : I (19, 0, 0, 0) := (h.2.2.2.2.2.2.2.2.1 hi).2
theorem cl_20_0 {I : ix → Prop} (h : clo I) (hi : I (20, 0, 0, 0)) : I (21, 0, 0, 0) := (h.2.2.2.2.2.2.2.2.2.1 hi).1
theorem cl_20_1 {I : ix → Prop} (h : clo I) (hi : I (20, 0, 0, 0)) : I (22, 0, 0, 0) := (h.2.2.2.2.2.2.2.2.2.1 hi).2.1
theorem cl_20_2 {I : ix → Prop} (h : clo I) (hi : I (20, 0, 0, 0)) : I (23, 0, 0, 0) := (h.2.2.2.2.2.2.2.2.2.1 hi).2.2.1
theorem cl_20_3 {I : ix → Prop} (h : clo I) (hi : I (20, 0, 0, 0)) : I (11, 0, 0, 0) := (h.2.2.2.2.2.2.2.2.2.1 hi).2.2.2
theorem cl_26_1 {I : ix → Prop} (h : clo I) (hi : I (26, 0, 0, 0)) : I (27, 0, 0, 0) := h.2.2.2.2.2.2.2.2.2.2.1 hi
theorem cl_29_0 {I : ix → Prop} (h : clo I) (hi : I (29, 0, 0, 0)) : I (30, 0, 0, 0) := h.2.2.2.2.2.2.2.2.2.2.2.1 hi 30 (Nat.le_of_ble_eq_true rfl) (Nat.le_of_ble_eq_true rfl)
theorem cl_29_1 {I : ix → Prop} (h : clo I) (hi : I (29, 0, 0, 0)) : I (31, 0, 0, 0) := h.2.2.2.2.2.2.2.2.2.2.2.1 hi 31 (Nat.le_of_ble_eq_true rfl) (Nat.le_of_ble_eq_true rfl)
theorem cl_29_2 {I : ix → Prop} (h : clo I) (hi : I (29, 0, 0, 0)) : I (32, 0, 0, 0) := h.2.2.2.2.2.2.2.2.2.2.2.1 hi 32 (Nat.le_of_ble_eq_true rfl) (Nat.le_of_ble_eq_true rfl)
theorem cl_29_3 {I : ix → Prop} (h : clo I) (hi : I (29, 0, 0, 0)) : I (33, 0, 0, 0) := h.2.2.2.2.2.2.2.2.2.2.2.1 hi 33 (Nat.le_of_ble_eq_true rfl) (Nat.le_of_ble_eq_true rfl)
theorem cl_29_5 {I : ix → Prop} (h : clo I) (hi : I (29, 0, 0, 0)) : I (34, 0, 0, 0) := h.2.2.2.2.2.2.2.2.2.2.2.1 hi 34 (Nat.le_of_ble_eq_true rfl) (Nat.le_of_ble_eq_true rfl)
theorem cl_29_6 {I : ix → Prop} (h : clo I) (hi : I (29, 0, 0, 0)) : I (35, 0, 0, 0) := h.2.2.2.2.2.2.2.2.2.2.2.1 hi 35 (Nat.le_of_ble_eq_true rfl) (Nat.le_of_ble_eq_true rfl)
theorem cl_29_7 {I : ix → Prop} (h : clo I) (hi : I (29, 0, 0, 0)) : I (36, 0, 0, 0) := h.2.2.2.2.2.2.2.2.2.2.2.1 hi 36 (Nat.le_of_ble_eq_true rfl) (Nat.le_of_ble_eq_true rfl)
theorem cl_29_8 {I : ix → Prop} (h : clo I) (hi : I (29, 0, 0, 0)) : I (37, 0, 0, 0) := h.2.2.2.2.2.2.2.2.2.2.2.1 hi 37 (Nat.le_of_ble_eq_true rfl) (Nat.le_of_ble_eq_true rfl)
theorem cl_29_9 {I : ix → Prop} (h : clo I) (hi : I (29, 0, 0, 0)) : I (38, 0, 0, 0) := h.2.2.2.2.2.2.2.2.2.2.2.1 hi 38 (Nat.le_of_ble_eq_true rfl) (Nat.le_of_ble_eq_true rfl)
theorem cl_29_10 {I : ix → Prop} (h : clo I) (hi : I (29, 0, 0, 0)) : I (39, 0, 0, 0) := h.2.2.2.2.2.2.2.2.2.2.2.1 hi 39 (Nat.le_of_ble_eq_true rfl) (Nat.le_of_ble_eq_true rfl)
theorem cl_29_11 {I : ix → Prop} (h : clo I) (hi : I (29, 0, 0, 0)) : I (40, 0, 0, 0) := h.2.2.2.2.2.2.2.2.2.2.2.1 hi 40 (Nat.le_of_ble_eq_true rfl) (Nat.le_of_ble_eq_true rfl)
theorem cl_29_12 {I : ix → Prop} (h : clo I) (hi : I (29, 0, 0, 0)) : I (41, 0, 0, 0) := h.2.2.2.2.2.2.2.2.2.2.2.1 hi 41 (Nat.le_of_ble_eq_true rfl) (Nat.le_of_ble_eq_true rfl)
theorem cl_29_13 {I : ix → Prop} (h : clo I) (hi : I (29, 0, 0, 0)) : I (42, 0, 0, 0) := h.2.2.2.2.2.2.2.2.2.2.2.1 hi 42 (Nat.le_of_ble_eq_true rfl) (Nat.le_of_ble_eq_true rfl)
theorem cl_29_14 {I : ix → Prop} (h : clo I) (hi : I (29, 0, 0, 0)) : I (43, 0, 0, 0) := h.2.2.2.2.2.2.2.2.2.2.2.1 hi 43 (Nat.le_of_ble_eq_true rfl) (Nat.le_of_ble_eq_true rfl)
theorem cl_29_15 {I : ix → Prop} (h : clo I) (hi : I (29, 0, 0, 0)) : I (44, 0, 0, 0) := h.2.2.2.2.2.2.2.2.2.2.2.1 hi 44 (Nat.le_of_ble_eq_true rfl) (Nat.le_of_ble_eq_true rfl)
theorem cl_29_16 {I : ix → Prop} (h : clo I) (hi : I (29, 0, 0, 0)) : I (45, 0, 0, 0) := h.2.2.2.2.2.2.2.2.2.2.2.1 hi 45 (Nat.le_of_ble_eq_true rfl) (Nat.le_of_ble_eq_true rfl)
theorem cl_29_17 {I : ix → Prop} (h : clo I) (hi : I (29, 0, 0, 0)) : I (46, 0, 0, 0) := h.2.2.2.2.2.2.2.2.2.2.2.1 hi 46 (Nat.le_of_ble_eq_true rfl) (Nat.le_of_ble_eq_true rfl)
theorem cl_27 {I : ix → Prop} (h : clo I) : ∀ j, I j → j.1 = 27 → j = (27, 0, 0, 0) := h.2.2.2.2.2.2.2.2.2.2.2.2
section FL
variable {p : Program} {l : Launch} {e : Env} {R : Room} {s : State} {m : MethodId} {args : Array Value} {below : List Frame} {meth : Method} {c : Code} {H : Heap} {locs : List Loc} {cells slots : Nat} {Q : State → Prop}
variable {cc : ByteArray} {pc nL : Nat} {ls : Array Slot} {rest : List Value} {rt : Option FieldType} {G : GG} {I : ix → Prop} {ad : ix → Nat} {M : Mem}
theorem gf_103 {s0 b0 c0 : Nat} (C : cx p s m args meth c cc nL rt RX6 G) (hP : wd G I ad M H) (hi : I (7, s0, b0, c0)) (hdg : decode cc pc = .ok (.getfield 22, 3)) (kk : W p l e R s m args below meth c H locs cells slots Q (F0 m (pc + 3) ls (.int (M.1 (7, s0, b0, c0) 0) :: rest))) : W p l e R s m args below meth c H locs cells slots Q (F0 m pc ls (.ref (ad (7, s0, b0, c0)) :: rest)) := r_get C hP hi rfl inX6 rfl 0 (by decide) mw_103 rfl hdg kk
theorem pf_103 {s0 b0 c0 : Nat} {v : Int32} (C : cx p s m args meth c cc nL rt RX6 G) (hP : wd G I ad M H) (hS : va_S (fA I ad) s.heap H locs) (hi : I (7, s0, b0, c0)) (hdg : decode cc pc = .ok (.putfield 22, 3)) (kk : ∀ (H1 : Heap) (locs1 : List Loc), wd G I ad (mu M (7, s0, b0, c0) 0 v) H1 → va_S (fA I ad) s.heap H1 locs1 → W p l e R s m args below meth c H1 locs1 cells slots Q (F0 m (pc + 3) ls rest)) : W p l e R s m args below meth c H locs cells slots Q (F0 m pc ls (.int v :: .ref (ad (7, s0, b0, c0)) :: rest)) := r_put C hP hS hi rfl inX6 tyX6 tyX6_ok nmX6 rfl 0 (by decide) mw_103 rfl (ty := .int) (by decide +kernel) rfl rfl (Nat.le_of_ble_eq_true rfl) (by rfl) hdg kk
theorem gf_104 {s0 b0 c0 : Nat} (C : cx p s m args meth c cc nL rt RX8 G) (hP : wd G I ad M H) (hi : I (7, s0, b0, c0)) (hdg : decode cc pc = .ok (.getfield 105, 3)) (kk : W p l e R s m args below meth c H locs cells slots Q (F0 m (pc + 3) ls (.int (M.1 (7, s0, b0, c0) 0) :: rest))) : W p l e R s m args below meth c H locs cells slots Q (F0 m pc ls (.ref (ad (7, s0, b0, c0)) :: rest)) := r_get C hP hi rfl inX6 rfl 0 (by decide) mw_104 rfl hdg kk
theorem gf_105 {s0 b0 c0 : Nat} (C : cx p s m args meth c cc nL rt RX2 G) (hP : wd G I ad M H) (hi : I (7, s0, b0, c0)) (hdg : decode cc pc = .ok (.getfield 114, 3)) (kk : W p l e R s m args below meth c H locs cells slots Q (F0 m (pc + 3) ls (.int (M.1 (7, s0, b0, c0) 0) :: rest))) : W p l e R s m args below meth c H locs cells slots Q (F0 m pc ls (.ref (ad (7, s0, b0, c0)) :: rest)) := r_get C hP hi rfl inX6 rfl 0 (by decide) mw_105 rfl hdg kk
theorem gf_106 {s0 b0 c0 : Nat} (C : cx p s m args meth c cc nL rt RX6 G) (hP : wd G I ad M H) (hi : I (7, s0, b0, c0)) (hdg : decode cc pc = .ok (.getfield 26, 3)) (kk : W p l e R s m args below meth c H locs cells slots Q (F0 m (pc + 3) ls (.int (M.1 (7, s0, b0, c0) 1) :: rest))) : W p l e R s m args below meth c H locs cells slots Q (F0 m pc ls (.ref (ad (7, s0, b0, c0)) :: rest)) := r_get C hP hi rfl inX6 rfl 1 (by decide) mw_106 rfl hdg kk
theorem pf_106 {s0 b0 c0 : Nat} {v : Int32} (C : cx p s m args meth c cc nL rt RX6 G) (hP : wd G I ad M H) (hS : va_S (fA I ad) s.heap H locs) (hi : I (7, s0, b0, c0)) (hdg : decode cc pc = .ok (.putfield 26, 3)) (kk : ∀ (H1 : Heap) (locs1 : List Loc), wd G I ad (mu M (7, s0, b0, c0) 1 v) H1 → va_S (fA I ad) s.heap H1 locs1 → W p l e R s m args below meth c H1 locs1 cells slots Q (F0 m (pc + 3) ls rest)) : W p l e R s m args below meth c H locs cells slots Q (F0 m pc ls (.int v :: .ref (ad (7, s0, b0, c0)) :: rest)) := r_put C hP hS hi rfl inX6 tyX6 tyX6_ok nmX6 rfl 1 (by decide) mw_106 rfl (ty := .int) (by decide +kernel) rfl rfl (Nat.le_of_ble_eq_true rfl) (by rfl) hdg kk
theorem gf_107 {s0 b0 c0 : Nat} (C : cx p s m args meth c cc nL rt RX8 G) (hP : wd G I ad M H) (hi : I (7, s0, b0, c0)) (hdg : decode cc pc = .ok (.getfield 111, 3)) (kk : W p l e R s m args below meth c H locs cells slots Q (F0 m (pc + 3) ls (.int (M.1 (7, s0, b0, c0) 1) :: rest))) : W p l e R s m args below meth c H locs cells slots Q (F0 m pc ls (.ref (ad (7, s0, b0, c0)) :: rest)) := r_get C hP hi rfl inX6 rfl 1 (by decide) mw_107 rfl hdg kk
theorem gf_108 {s0 b0 c0 : Nat} (C : cx p s m args meth c cc nL rt RX2 G) (hP : wd G I ad M H) (hi : I (7, s0, b0, c0)) (hdg : decode cc pc = .ok (.getfield 117, 3)) (kk : W p l e R s m args below meth c H locs cells slots Q (F0 m (pc + 3) ls (.int (M.1 (7, s0, b0, c0) 1) :: rest))) : W p l e R s m args below meth c H locs cells slots Q (F0 m pc ls (.ref (ad (7, s0, b0, c0)) :: rest)) := r_get C hP hi rfl inX6 rfl 1 (by decide) mw_108 rfl hdg kk
theorem gf_109 {s0 b0 c0 : Nat} (C : cx p s m args meth c cc nL rt RX6 G) (hP : wd G I ad M H) (hi : I (7, s0, b0, c0)) (hdg : decode cc pc = .ok (.getfield 29, 3)) (kk : W p l e R s m args below meth c H locs cells slots Q (F0 m (pc + 3) ls (.int (M.1 (7, s0, b0, c0) 2) :: rest))) : W p l e R s m args below meth c H locs cells slots Q (F0 m pc ls (.ref (ad (7, s0, b0, c0)) :: rest)) := r_get C hP hi rfl inX6 rfl 2 (by decide) mw_109 rfl hdg kk
theorem pf_109 {s0 b0 c0 : Nat} {v : Int32} (C : cx p s m args meth c cc nL rt RX6 G) (hP : wd G I ad M H) (hS : va_S (fA I ad) s.heap H locs) (hi : I (7, s0, b0, c0)) (hdg : decode cc pc = .ok (.putfield 29, 3)) (kk : ∀ (H1 : Heap) (locs1 : List Loc), wd G I ad (mu M (7, s0, b0, c0) 2 v) H1 → va_S (fA I ad) s.heap H1 locs1 → W p l e R s m args below meth c H1 locs1 cells slots Q (F0 m (pc + 3) ls rest)) : W p l e R s m args below meth c H locs cells slots Q (F0 m pc ls (.int v :: .ref (ad (7, s0, b0, c0)) :: rest)) := r_put C hP hS hi rfl inX6 tyX6 tyX6_ok nmX6 rfl 2 (by decide) mw_109 rfl (ty := .int) (by decide +kernel) rfl rfl (Nat.le_of_ble_eq_true rfl) (by rfl) hdg kk
theorem gf_110 {s0 b0 c0 : Nat} (C : cx p s m args meth c cc nL rt RX2 G) (hP : wd G I ad M H) (hi : I (7, s0, b0, c0)) (hdg : decode cc pc = .ok (.getfield 79, 3)) (kk : W p l e R s m args below meth c H locs cells slots Q (F0 m (pc + 3) ls (.int (M.1 (7, s0, b0, c0) 2) :: rest))) : W p l e R s m args below meth c H locs cells slots Q (F0 m pc ls (.ref (ad (7, s0, b0, c0)) :: rest)) := r_get C hP hi rfl inX6 rfl 2 (by decide) mw_110 rfl hdg kk
theorem gf_111 {s0 b0 c0 : Nat} (C : cx p s m args meth c cc nL rt RX8 G) (hP : wd G I ad M H) (hi : I (7, s0, b0, c0)) (hdg : decode cc pc = .ok (.getfield 114, 3)) (kk : W p l e R s m args below meth c H locs cells slots Q (F0 m (pc + 3) ls (.int (M.1 (7, s0, b0, c0) 2) :: rest))) : W p l e R s m args below meth c H locs cells slots Q (F0 m pc ls (.ref (ad (7, s0, b0, c0)) :: rest)) := r_get C hP hi rfl inX6 rfl 2 (by decide) mw_111 rfl hdg kk
theorem gf_112 {s0 b0 c0 : Nat} (C : cx p s m args meth c cc nL rt RX6 G) (hP : wd G I ad M H) (hi : I (7, s0, b0, c0)) (hdg : decode cc pc = .ok (.getfield 32, 3)) (kk : W p l e R s m args below meth c H locs cells slots Q (F0 m (pc + 3) ls (.int (M.1 (7, s0, b0, c0) 3) :: rest))) : W p l e R s m args below meth c H locs cells slots Q (F0 m pc ls (.ref (ad (7, s0, b0, c0)) :: rest)) := r_get C hP hi rfl inX6 rfl 3 (by decide) mw_112 rfl hdg kk
theorem pf_112 {s0 b0 c0 : Nat} {v : Int32} (C : cx p s m args meth c cc nL rt RX6 G) (hP : wd G I ad M H) (hS : va_S (fA I ad) s.heap H locs) (hi : I (7, s0, b0, c0)) (hdg : decode cc pc = .ok (.putfield 32, 3)) (kk : ∀ (H1 : Heap) (locs1 : List Loc), wd G I ad (mu M (7, s0, b0, c0) 3 v) H1 → va_S (fA I ad) s.heap H1 locs1 → W p l e R s m args below meth c H1 locs1 cells slots Q (F0 m (pc + 3) ls rest)) : W p l e R s m args below meth c H locs cells slots Q (F0 m pc ls (.int v :: .ref (ad (7, s0, b0, c0)) :: rest)) := r_put C hP hS hi rfl inX6 tyX6 tyX6_ok nmX6 rfl 3 (by decide) mw_112 rfl (ty := .int) (by decide +kernel) rfl rfl (Nat.le_of_ble_eq_true rfl) (by rfl) hdg kk
theorem gf_113 {s0 b0 c0 : Nat} (C : cx p s m args meth c cc nL rt RX8 G) (hP : wd G I ad M H) (hi : I (7, s0, b0, c0)) (hdg : decode cc pc = .ok (.getfield 122, 3)) (kk : W p l e R s m args below meth c H locs cells slots Q (F0 m (pc + 3) ls (.int (M.1 (7, s0, b0, c0) 3) :: rest))) : W p l e R s m args below meth c H locs cells slots Q (F0 m pc ls (.ref (ad (7, s0, b0, c0)) :: rest)) := r_get C hP hi rfl inX6 rfl 3 (by decide) mw_113 rfl hdg kk
theorem gf_114 {s0 b0 c0 : Nat} (C : cx p s m args meth c cc nL rt RX6 G) (hP : wd G I ad M H) (hi : I (7, s0, b0, c0)) (hdg : decode cc pc = .ok (.getfield 35, 3)) (kk : W p l e R s m args below meth c H locs cells slots Q (F0 m (pc + 3) ls (.int (M.1 (7, s0, b0, c0) 4) :: rest))) : W p l e R s m args below meth c H locs cells slots Q (F0 m pc ls (.ref (ad (7, s0, b0, c0)) :: rest)) := r_get C hP hi rfl inX6 rfl 4 (by decide) mw_114 rfl hdg kk
theorem pf_114 {s0 b0 c0 : Nat} {v : Int32} (hz : v = 0 ∨ v = 1) (C : cx p s m args meth c cc nL rt RX6 G) (hP : wd G I ad M H) (hS : va_S (fA I ad) s.heap H locs) (hi : I (7, s0, b0, c0)) (hdg : decode cc pc = .ok (.putfield 35, 3)) (kk : ∀ (H1 : Heap) (locs1 : List Loc), wd G I ad (mu M (7, s0, b0, c0) 4 v) H1 → va_S (fA I ad) s.heap H1 locs1 → W p l e R s m args below meth c H1 locs1 cells slots Q (F0 m (pc + 3) ls rest)) : W p l e R s m args below meth c H locs cells slots Q (F0 m pc ls (.int v :: .ref (ad (7, s0, b0, c0)) :: rest)) := r_put C hP hS hi rfl inX6 tyX6 tyX6_ok nmX6 rfl 4 (by decide) mw_114 rfl (ty := .boolean) (by decide +kernel) (z_nar hz) (z_fit hz) (Nat.le_of_ble_eq_true rfl) (by rfl) hdg kk
theorem gf_115 {s0 b0 c0 : Nat} (C : cx p s m args meth c cc nL rt RX8 G) (hP : wd G I ad M H) (hi : I (7, s0, b0, c0)) (hdg : decode cc pc = .ok (.getfield 117, 3)) (kk : W p l e R s m args below meth c H locs cells slots Q (F0 m (pc + 3) ls (.int (M.1 (7, s0, b0, c0) 4) :: rest))) : W p l e R s m args below meth c H locs cells slots Q (F0 m pc ls (.ref (ad (7, s0, b0, c0)) :: rest)) := r_get C hP hi rfl inX6 rfl 4 (by decide) mw_115 rfl hdg kk
theorem gf_116 {s0 b0 c0 : Nat} (C : cx p s m args meth c cc nL rt RX6 G) (hP : wd G I ad M H) (hi : I (7, s0, b0, c0)) (hdg : decode cc pc = .ok (.getfield 9, 3)) (kk : W p l e R s m args below meth c H locs cells slots Q (F0 m (pc + 3) ls (.ref (ad (8, s0, b0, c0)) :: rest))) : W p l e R s m args below meth c H locs cells slots Q (F0 m pc ls (.ref (ad (7, s0, b0, c0)) :: rest)) := r_get C hP hi rfl inX6 rfl 5 (by decide) mw_116 rfl hdg kk
theorem gf_117 {s0 b0 c0 : Nat} (C : cx p s m args meth c cc nL rt RX8 G) (hP : wd G I ad M H) (hi : I (7, s0, b0, c0)) (hdg : decode cc pc = .ok (.getfield 129, 3)) (kk : W p l e R s m args below meth c H locs cells slots Q (F0 m (pc + 3) ls (.ref (ad (8, s0, b0, c0)) :: rest))) : W p l e R s m args below meth c H locs cells slots Q (F0 m pc ls (.ref (ad (7, s0, b0, c0)) :: rest)) := r_get C hP hi rfl inX6 rfl 5 (by decide) mw_117 rfl hdg kk
theorem gf_118 {s0 b0 c0 : Nat} (C : cx p s m args meth c cc nL rt RX6 G) (hP : wd G I ad M H) (hi : I (7, s0, b0, c0)) (hdg : decode cc pc = .ok (.getfield 15, 3)) (kk : W p l e R s m args below meth c H locs cells slots Q (F0 m (pc + 3) ls (.ref (ad (9, s0, b0, c0)) :: rest))) : W p l e R s m args below meth c H locs cells slots Q (F0 m pc ls (.ref (ad (7, s0, b0, c0)) :: rest)) := r_get C hP hi rfl inX6 rfl 6 (by decide) mw_118 rfl hdg kk
theorem gf_119 {s0 b0 c0 : Nat} (C : cx p s m args meth c cc nL rt RX8 G) (hP : wd G I ad M H) (hi : I (7, s0, b0, c0)) (hdg : decode cc pc = .ok (.getfield 132, 3)) (kk : W p l e R s m args below meth c H locs cells slots Q (F0 m (pc + 3) ls (.ref (ad (9, s0, b0, c0)) :: rest))) : W p l e R s m args below meth c H locs cells slots Q (F0 m pc ls (.ref (ad (7, s0, b0, c0)) :: rest)) := r_get C hP hi rfl inX6 rfl 6 (by decide) mw_119 rfl hdg kk
theorem gf_136 {s0 b0 : Nat} (C : cx p s m args meth c cc nL rt RX0 G) (hP : wd G I ad M H) (hi : I (3, s0, b0, 0)) (hdg : decode cc pc = .ok (.getfield 27, 3)) (kk : W p l e R s m args below meth c H locs cells slots Q (F0 m (pc + 3) ls (.int (M.1 (3, s0, b0, 0) 0) :: rest))) : W p l e R s m args below meth c H locs cells slots Q (F0 m pc ls (.ref (ad (3, s0, b0, 0)) :: rest)) := r_get C hP hi rfl inX0 rfl 0 (by decide) mw_136 rfl hdg kk
theorem pf_136 {s0 b0 : Nat} {v : Int32} (C : cx p s m args meth c cc nL rt RX0 G) (hP : wd G I ad M H) (hS : va_S (fA I ad) s.heap H locs) (hi : I (3, s0, b0, 0)) (hdg : decode cc pc = .ok (.putfield 27, 3)) (kk : ∀ (H1 : Heap) (locs1 : List Loc), wd G I ad (mu M (3, s0, b0, 0) 0 v) H1 → va_S (fA I ad) s.heap H1 locs1 → W p l e R s m args below meth c H1 locs1 cells slots Q (F0 m (pc + 3) ls rest)) : W p l e R s m args below meth c H locs cells slots Q (F0 m pc ls (.int v :: .ref (ad (3, s0, b0, 0)) :: rest)) := r_put C hP hS hi rfl inX0 tyX0 tyX0_ok nmX0 rfl 0 (by decide) mw_136 rfl (ty := .int) (by decide +kernel) rfl rfl (Nat.le_of_ble_eq_true rfl) (by rfl) hdg kk
theorem gf_137 {s0 b0 : Nat} (C : cx p s m args meth c cc nL rt RX5 G) (hP : wd G I ad M H) (hi : I (3, s0, b0, 0)) (hdg : decode cc pc = .ok (.getfield 18, 3)) (kk : W p l e R s m args below meth c H locs cells slots Q (F0 m (pc + 3) ls (.int (M.1 (3, s0, b0, 0) 0) :: rest))) : W p l e R s m args below meth c H locs cells slots Q (F0 m pc ls (.ref (ad (3, s0, b0, 0)) :: rest)) := r_get C hP hi rfl inX0 rfl 0 (by decide) mw_137 rfl hdg kk
theorem gf_138 {s0 b0 : Nat} (C : cx p s m args meth c cc nL rt RX2 G) (hP : wd G I ad M H) (hi : I (3, s0, b0, 0)) (hdg : decode cc pc = .ok (.getfield 84, 3)) (kk : W p l e R s m args below meth c H locs cells slots Q (F0 m (pc + 3) ls (.int (M.1 (3, s0, b0, 0) 0) :: rest))) : W p l e R s m args below meth c H locs cells slots Q (F0 m pc ls (.ref (ad (3, s0, b0, 0)) :: rest)) := r_get C hP hi rfl inX0 rfl 0 (by decide) mw_138 rfl hdg kk
theorem gf_139 {s0 b0 : Nat} (C : cx p s m args meth c cc nL rt RX8 G) (hP : wd G I ad M H) (hi : I (3, s0, b0, 0)) (hdg : decode cc pc = .ok (.getfield 156, 3)) (kk : W p l e R s m args below meth c H locs cells slots Q (F0 m (pc + 3) ls (.int (M.1 (3, s0, b0, 0) 0) :: rest))) : W p l e R s m args below meth c H locs cells slots Q (F0 m pc ls (.ref (ad (3, s0, b0, 0)) :: rest)) := r_get C hP hi rfl inX0 rfl 0 (by decide) mw_139 rfl hdg kk
theorem gf_140 {s0 b0 : Nat} (C : cx p s m args meth c cc nL rt RX0 G) (hP : wd G I ad M H) (hi : I (3, s0, b0, 0)) (hdg : decode cc pc = .ok (.getfield 11, 3)) (kk : W p l e R s m args below meth c H locs cells slots Q (F0 m (pc + 3) ls (.ref (ad (4, s0, b0, 0)) :: rest))) : W p l e R s m args below meth c H locs cells slots Q (F0 m pc ls (.ref (ad (3, s0, b0, 0)) :: rest)) := r_get C hP hi rfl inX0 rfl 1 (by decide) mw_140 rfl hdg kk
theorem gf_141 {s0 b0 : Nat} (C : cx p s m args meth c cc nL rt RX8 G) (hP : wd G I ad M H) (hi : I (3, s0, b0, 0)) (hdg : decode cc pc = .ok (.getfield 97, 3)) (kk : W p l e R s m args below meth c H locs cells slots Q (F0 m (pc + 3) ls (.ref (ad (4, s0, b0, 0)) :: rest))) : W p l e R s m args below meth c H locs cells slots Q (F0 m pc ls (.ref (ad (3, s0, b0, 0)) :: rest)) := r_get C hP hi rfl inX0 rfl 1 (by decide) mw_141 rfl hdg kk
theorem gf_142 {s0 b0 : Nat} (C : cx p s m args meth c cc nL rt RX0 G) (hP : wd G I ad M H) (hi : I (3, s0, b0, 0)) (hdg : decode cc pc = .ok (.getfield 18, 3)) (kk : W p l e R s m args below meth c H locs cells slots Q (F0 m (pc + 3) ls (.ref (ad (6, s0, b0, 0)) :: rest))) : W p l e R s m args below meth c H locs cells slots Q (F0 m pc ls (.ref (ad (3, s0, b0, 0)) :: rest)) := r_get C hP hi rfl inX0 rfl 2 (by decide) mw_142 rfl hdg kk
theorem gf_143 {s0 b0 : Nat} (C : cx p s m args meth c cc nL rt RX2 G) (hP : wd G I ad M H) (hi : I (3, s0, b0, 0)) (hdg : decode cc pc = .ok (.getfield 73, 3)) (kk : W p l e R s m args below meth c H locs cells slots Q (F0 m (pc + 3) ls (.ref (ad (6, s0, b0, 0)) :: rest))) : W p l e R s m args below meth c H locs cells slots Q (F0 m pc ls (.ref (ad (3, s0, b0, 0)) :: rest)) := r_get C hP hi rfl inX0 rfl 2 (by decide) mw_143 rfl hdg kk
theorem gf_144 {s0 b0 : Nat} (C : cx p s m args meth c cc nL rt RX8 G) (hP : wd G I ad M H) (hi : I (3, s0, b0, 0)) (hdg : decode cc pc = .ok (.getfield 101, 3)) (kk : W p l e R s m args below meth c H locs cells slots Q (F0 m (pc + 3) ls (.ref (ad (6, s0, b0, 0)) :: rest))) : W p l e R s m args below meth c H locs cells slots Q (F0 m pc ls (.ref (ad (3, s0, b0, 0)) :: rest)) := r_get C hP hi rfl inX0 rfl 2 (by decide) mw_144 rfl hdg kk
theorem gf_145 {s0 b0 : Nat} (C : cx p s m args meth c cc nL rt RX0 G) (hP : wd G I ad M H) (hi : I (3, s0, b0, 0)) (hdg : decode cc pc = .ok (.getfield 23, 3)) (kk : W p l e R s m args below meth c H locs cells slots Q (F0 m (pc + 3) ls (.ref (ad (7, s0, b0, 4)) :: rest))) : W p l e R s m args below meth c H locs cells slots Q (F0 m pc ls (.ref (ad (3, s0, b0, 0)) :: rest)) := r_get C hP hi rfl inX0 rfl 3 (by decide) mw_145 rfl hdg kk
theorem gf_155 {s0 : Nat} (C : cx p s m args meth c cc nL rt RX5 G) (hP : wd G I ad M H) (hi : I (1, s0, 0, 0)) (hdg : decode cc pc = .ok (.getfield 11, 3)) (kk : W p l e R s m args below meth c H locs cells slots Q (F0 m (pc + 3) ls (.ref (ad (2, s0, 0, 0)) :: rest))) : W p l e R s m args below meth c H locs cells slots Q (F0 m pc ls (.ref (ad (1, s0, 0, 0)) :: rest)) := r_get C hP hi rfl inX5 rfl 0 (by decide) mw_155 rfl hdg kk
theorem gf_156 {s0 : Nat} (C : cx p s m args meth c cc nL rt RX8 G) (hP : wd G I ad M H) (hi : I (1, s0, 0, 0)) (hdg : decode cc pc = .ok (.getfield 71, 3)) (kk : W p l e R s m args below meth c H locs cells slots Q (F0 m (pc + 3) ls (.ref (ad (2, s0, 0, 0)) :: rest))) : W p l e R s m args below meth c H locs cells slots Q (F0 m pc ls (.ref (ad (1, s0, 0, 0)) :: rest)) := r_get C hP hi rfl inX5 rfl 0 (by decide) mw_156 rfl hdg kk
theorem gf_176 (C : cx p s m args meth c cc nL rt RX1 G) (hP : wd G I ad M H) (hi : I (11, 0, 0, 0)) (hdg : decode cc pc = .ok (.getfield 33, 3)) (kk : W p l e R s m args below meth c H locs cells slots Q (F0 m (pc + 3) ls (.int (M.1 (11, 0, 0, 0) 0) :: rest))) : W p l e R s m args below meth c H locs cells slots Q (F0 m pc ls (.ref (ad (11, 0, 0, 0)) :: rest)) := r_get C hP hi rfl inX1 rfl 0 (by decide) mw_176 rfl hdg kk
theorem pf_176 {v : Int32} (C : cx p s m args meth c cc nL rt RX1 G) (hP : wd G I ad M H) (hS : va_S (fA I ad) s.heap H locs) (hi : I (11, 0, 0, 0)) (hdg : decode cc pc = .ok (.putfield 33, 3)) (kk : ∀ (H1 : Heap) (locs1 : List Loc), wd G I ad (mu M (11, 0, 0, 0) 0 v) H1 → va_S (fA I ad) s.heap H1 locs1 → W p l e R s m args below meth c H1 locs1 cells slots Q (F0 m (pc + 3) ls rest)) : W p l e R s m args below meth c H locs cells slots Q (F0 m pc ls (.int v :: .ref (ad (11, 0, 0, 0)) :: rest)) := r_put C hP hS hi rfl inX1 tyX1 tyX1_ok nmX1 rfl 0 (by decide) mw_176 rfl (ty := .int) (by decide +kernel) rfl rfl (Nat.le_of_ble_eq_true rfl) (by rfl) hdg kk
theorem gf_177 (C : cx p s m args meth c cc nL rt RX3 G) (hP : wd G I ad M H) (hi : I (11, 0, 0, 0)) (hdg : decode cc pc = .ok (.getfield 19, 3)) (kk : W p l e R s m args below meth c H locs cells slots Q (F0 m (pc + 3) ls (.int (M.1 (11, 0, 0, 0) 0) :: rest))) : W p l e R s m args below meth c H locs cells slots Q (F0 m pc ls (.ref (ad (11, 0, 0, 0)) :: rest)) := r_get C hP hi rfl inX1 rfl 0 (by decide) mw_177 rfl hdg kk
theorem gf_178 (C : cx p s m args meth c cc nL rt RX2 G) (hP : wd G I ad M H) (hi : I (11, 0, 0, 0)) (hdg : decode cc pc = .ok (.getfield 25, 3)) (kk : W p l e R s m args below meth c H locs cells slots Q (F0 m (pc + 3) ls (.int (M.1 (11, 0, 0, 0) 0) :: rest))) : W p l e R s m args below meth c H locs cells slots Q (F0 m pc ls (.ref (ad (11, 0, 0, 0)) :: rest)) := r_get C hP hi rfl inX1 rfl 0 (by decide) mw_178 rfl hdg kk
theorem gf_179 (C : cx p s m args meth c cc nL rt RX8 G) (hP : wd G I ad M H) (hi : I (11, 0, 0, 0)) (hdg : decode cc pc = .ok (.getfield 137, 3)) (kk : W p l e R s m args below meth c H locs cells slots Q (F0 m (pc + 3) ls (.int (M.1 (11, 0, 0, 0) 0) :: rest))) : W p l e R s m args below meth c H locs cells slots Q (F0 m pc ls (.ref (ad (11, 0, 0, 0)) :: rest)) := r_get C hP hi rfl inX1 rfl 0 (by decide) mw_179 rfl hdg kk
theorem gf_180 (C : cx p s m args meth c cc nL rt RX1 G) (hP : wd G I ad M H) (hi : I (11, 0, 0, 0)) (hdg : decode cc pc = .ok (.getfield 9, 3)) (kk : W p l e R s m args below meth c H locs cells slots Q (F0 m (pc + 3) ls (.ref (ad (12, 0, 0, 0)) :: rest))) : W p l e R s m args below meth c H locs cells slots Q (F0 m pc ls (.ref (ad (11, 0, 0, 0)) :: rest)) := r_get C hP hi rfl inX1 rfl 1 (by decide) mw_180 rfl hdg kk
theorem gf_181 (C : cx p s m args meth c cc nL rt RX3 G) (hP : wd G I ad M H) (hi : I (11, 0, 0, 0)) (hdg : decode cc pc = .ok (.getfield 35, 3)) (kk : W p l e R s m args below meth c H locs cells slots Q (F0 m (pc + 3) ls (.ref (ad (12, 0, 0, 0)) :: rest))) : W p l e R s m args below meth c H locs cells slots Q (F0 m pc ls (.ref (ad (11, 0, 0, 0)) :: rest)) := r_get C hP hi rfl inX1 rfl 1 (by decide) mw_181 rfl hdg kk
theorem gf_182 (C : cx p s m args meth c cc nL rt RX2 G) (hP : wd G I ad M H) (hi : I (11, 0, 0, 0)) (hdg : decode cc pc = .ok (.getfield 45, 3)) (kk : W p l e R s m args below meth c H locs cells slots Q (F0 m (pc + 3) ls (.ref (ad (12, 0, 0, 0)) :: rest))) : W p l e R s m args below meth c H locs cells slots Q (F0 m pc ls (.ref (ad (11, 0, 0, 0)) :: rest)) := r_get C hP hi rfl inX1 rfl 1 (by decide) mw_182 rfl hdg kk
theorem gf_183 (C : cx p s m args meth c cc nL rt RX1 G) (hP : wd G I ad M H) (hi : I (11, 0, 0, 0)) (hdg : decode cc pc = .ok (.getfield 15, 3)) (kk : W p l e R s m args below meth c H locs cells slots Q (F0 m (pc + 3) ls (.ref (ad (13, 0, 0, 0)) :: rest))) : W p l e R s m args below meth c H locs cells slots Q (F0 m pc ls (.ref (ad (11, 0, 0, 0)) :: rest)) := r_get C hP hi rfl inX1 rfl 2 (by decide) mw_183 rfl hdg kk
theorem gf_184 (C : cx p s m args meth c cc nL rt RX3 G) (hP : wd G I ad M H) (hi : I (11, 0, 0, 0)) (hdg : decode cc pc = .ok (.getfield 25, 3)) (kk : W p l e R s m args below meth c H locs cells slots Q (F0 m (pc + 3) ls (.ref (ad (13, 0, 0, 0)) :: rest))) : W p l e R s m args below meth c H locs cells slots Q (F0 m pc ls (.ref (ad (11, 0, 0, 0)) :: rest)) := r_get C hP hi rfl inX1 rfl 2 (by decide) mw_184 rfl hdg kk
theorem gf_185 (C : cx p s m args meth c cc nL rt RX2 G) (hP : wd G I ad M H) (hi : I (11, 0, 0, 0)) (hdg : decode cc pc = .ok (.getfield 31, 3)) (kk : W p l e R s m args below meth c H locs cells slots Q (F0 m (pc + 3) ls (.ref (ad (13, 0, 0, 0)) :: rest))) : W p l e R s m args below meth c H locs cells slots Q (F0 m pc ls (.ref (ad (11, 0, 0, 0)) :: rest)) := r_get C hP hi rfl inX1 rfl 2 (by decide) mw_185 rfl hdg kk
theorem gf_186 (C : cx p s m args meth c cc nL rt RX8 G) (hP : wd G I ad M H) (hi : I (11, 0, 0, 0)) (hdg : decode cc pc = .ok (.getfield 159, 3)) (kk : W p l e R s m args below meth c H locs cells slots Q (F0 m (pc + 3) ls (.ref (ad (13, 0, 0, 0)) :: rest))) : W p l e R s m args below meth c H locs cells slots Q (F0 m pc ls (.ref (ad (11, 0, 0, 0)) :: rest)) := r_get C hP hi rfl inX1 rfl 2 (by decide) mw_186 rfl hdg kk
theorem gf_187 (C : cx p s m args meth c cc nL rt RX1 G) (hP : wd G I ad M H) (hi : I (11, 0, 0, 0)) (hdg : decode cc pc = .ok (.getfield 18, 3)) (kk : W p l e R s m args below meth c H locs cells slots Q (F0 m (pc + 3) ls (.ref (ad (14, 0, 0, 0)) :: rest))) : W p l e R s m args below meth c H locs cells slots Q (F0 m pc ls (.ref (ad (11, 0, 0, 0)) :: rest)) := r_get C hP hi rfl inX1 rfl 3 (by decide) mw_187 rfl hdg kk
theorem gf_188 (C : cx p s m args meth c cc nL rt RX2 G) (hP : wd G I ad M H) (hi : I (11, 0, 0, 0)) (hdg : decode cc pc = .ok (.getfield 55, 3)) (kk : W p l e R s m args below meth c H locs cells slots Q (F0 m (pc + 3) ls (.ref (ad (14, 0, 0, 0)) :: rest))) : W p l e R s m args below meth c H locs cells slots Q (F0 m pc ls (.ref (ad (11, 0, 0, 0)) :: rest)) := r_get C hP hi rfl inX1 rfl 3 (by decide) mw_188 rfl hdg kk
theorem gf_189 (C : cx p s m args meth c cc nL rt RX3 G) (hP : wd G I ad M H) (hi : I (11, 0, 0, 0)) (hdg : decode cc pc = .ok (.getfield 46, 3)) (kk : W p l e R s m args below meth c H locs cells slots Q (F0 m (pc + 3) ls (.ref (ad (14, 0, 0, 0)) :: rest))) : W p l e R s m args below meth c H locs cells slots Q (F0 m pc ls (.ref (ad (11, 0, 0, 0)) :: rest)) := r_get C hP hi rfl inX1 rfl 3 (by decide) mw_189 rfl hdg kk
theorem gf_190 (C : cx p s m args meth c cc nL rt RX1 G) (hP : wd G I ad M H) (hi : I (11, 0, 0, 0)) (hdg : decode cc pc = .ok (.getfield 21, 3)) (kk : W p l e R s m args below meth c H locs cells slots Q (F0 m (pc + 3) ls (.ref (ad (15, 0, 0, 0)) :: rest))) : W p l e R s m args below meth c H locs cells slots Q (F0 m pc ls (.ref (ad (11, 0, 0, 0)) :: rest)) := r_get C hP hi rfl inX1 rfl 4 (by decide) mw_190 rfl hdg kk
theorem gf_191 (C : cx p s m args meth c cc nL rt RX3 G) (hP : wd G I ad M H) (hi : I (11, 0, 0, 0)) (hdg : decode cc pc = .ok (.getfield 64, 3)) (kk : W p l e R s m args below meth c H locs cells slots Q (F0 m (pc + 3) ls (.ref (ad (15, 0, 0, 0)) :: rest))) : W p l e R s m args below meth c H locs cells slots Q (F0 m pc ls (.ref (ad (11, 0, 0, 0)) :: rest)) := r_get C hP hi rfl inX1 rfl 4 (by decide) mw_191 rfl hdg kk
theorem gf_192 (C : cx p s m args meth c cc nL rt RX2 G) (hP : wd G I ad M H) (hi : I (11, 0, 0, 0)) (hdg : decode cc pc = .ok (.getfield 123, 3)) (kk : W p l e R s m args below meth c H locs cells slots Q (F0 m (pc + 3) ls (.ref (ad (15, 0, 0, 0)) :: rest))) : W p l e R s m args below meth c H locs cells slots Q (F0 m pc ls (.ref (ad (11, 0, 0, 0)) :: rest)) := r_get C hP hi rfl inX1 rfl 4 (by decide) mw_192 rfl hdg kk
theorem gf_193 (C : cx p s m args meth c cc nL rt RX1 G) (hP : wd G I ad M H) (hi : I (11, 0, 0, 0)) (hdg : decode cc pc = .ok (.getfield 24, 3)) (kk : W p l e R s m args below meth c H locs cells slots Q (F0 m (pc + 3) ls (.ref (ad (16, 0, 0, 0)) :: rest))) : W p l e R s m args below meth c H locs cells slots Q (F0 m pc ls (.ref (ad (11, 0, 0, 0)) :: rest)) := r_get C hP hi rfl inX1 rfl 5 (by decide) mw_193 rfl hdg kk
theorem gf_194 (C : cx p s m args meth c cc nL rt RX1 G) (hP : wd G I ad M H) (hi : I (11, 0, 0, 0)) (hdg : decode cc pc = .ok (.getfield 27, 3)) (kk : W p l e R s m args below meth c H locs cells slots Q (F0 m (pc + 3) ls (.ref (ad (17, 0, 0, 0)) :: rest))) : W p l e R s m args below meth c H locs cells slots Q (F0 m pc ls (.ref (ad (11, 0, 0, 0)) :: rest)) := r_get C hP hi rfl inX1 rfl 6 (by decide) mw_194 rfl hdg kk
theorem gf_195 (C : cx p s m args meth c cc nL rt RX1 G) (hP : wd G I ad M H) (hi : I (11, 0, 0, 0)) (hdg : decode cc pc = .ok (.getfield 37, 3)) (kk : W p l e R s m args below meth c H locs cells slots Q (F0 m (pc + 3) ls (.int (M.1 (11, 0, 0, 0) 7) :: rest))) : W p l e R s m args below meth c H locs cells slots Q (F0 m pc ls (.ref (ad (11, 0, 0, 0)) :: rest)) := r_get C hP hi rfl inX1 rfl 7 (by decide) mw_195 rfl hdg kk
theorem pf_195 {v : Int32} (C : cx p s m args meth c cc nL rt RX1 G) (hP : wd G I ad M H) (hS : va_S (fA I ad) s.heap H locs) (hi : I (11, 0, 0, 0)) (hdg : decode cc pc = .ok (.putfield 37, 3)) (kk : ∀ (H1 : Heap) (locs1 : List Loc), wd G I ad (mu M (11, 0, 0, 0) 7 v) H1 → va_S (fA I ad) s.heap H1 locs1 → W p l e R s m args below meth c H1 locs1 cells slots Q (F0 m (pc + 3) ls rest)) : W p l e R s m args below meth c H locs cells slots Q (F0 m pc ls (.int v :: .ref (ad (11, 0, 0, 0)) :: rest)) := r_put C hP hS hi rfl inX1 tyX1 tyX1_ok nmX1 rfl 7 (by decide) mw_195 rfl (ty := .int) (by decide +kernel) rfl rfl (Nat.le_of_ble_eq_true rfl) (by rfl) hdg kk
theorem gf_196 (C : cx p s m args meth c cc nL rt RX1 G) (hP : wd G I ad M H) (hi : I (11, 0, 0, 0)) (hdg : decode cc pc = .ok (.getfield 41, 3)) (kk : W p l e R s m args below meth c H locs cells slots Q (F0 m (pc + 3) ls (.int (M.1 (11, 0, 0, 0) 8) :: rest))) : W p l e R s m args below meth c H locs cells slots Q (F0 m pc ls (.ref (ad (11, 0, 0, 0)) :: rest)) := r_get C hP hi rfl inX1 rfl 8 (by decide) mw_196 rfl hdg kk
theorem pf_196 {v : Int32} (C : cx p s m args meth c cc nL rt RX1 G) (hP : wd G I ad M H) (hS : va_S (fA I ad) s.heap H locs) (hi : I (11, 0, 0, 0)) (hdg : decode cc pc = .ok (.putfield 41, 3)) (kk : ∀ (H1 : Heap) (locs1 : List Loc), wd G I ad (mu M (11, 0, 0, 0) 8 v) H1 → va_S (fA I ad) s.heap H1 locs1 → W p l e R s m args below meth c H1 locs1 cells slots Q (F0 m (pc + 3) ls rest)) : W p l e R s m args below meth c H locs cells slots Q (F0 m pc ls (.int v :: .ref (ad (11, 0, 0, 0)) :: rest)) := r_put C hP hS hi rfl inX1 tyX1 tyX1_ok nmX1 rfl 8 (by decide) mw_196 rfl (ty := .int) (by decide +kernel) rfl rfl (Nat.le_of_ble_eq_true rfl) (by rfl) hdg kk
theorem gf_222 (C : cx p s m args meth c cc nL rt RX3 G) (hP : wd G I ad M H) (hi : I (18, 0, 0, 0)) (hdg : decode cc pc = .ok (.getfield 9, 3)) (kk : W p l e R s m args below meth c H locs cells slots Q (F0 m (pc + 3) ls (.ref (ad (11, 0, 0, 0)) :: rest))) : W p l e R s m args below meth c H locs cells slots Q (F0 m pc ls (.ref (ad (18, 0, 0, 0)) :: rest)) := r_get C hP hi rfl inX3 rfl 0 (by decide) mw_222 rfl hdg kk
theorem gf_223 (C : cx p s m args meth c cc nL rt RX3 G) (hP : wd G I ad M H) (hi : I (18, 0, 0, 0)) (hdg : decode cc pc = .ok (.getfield 15, 3)) (kk : W p l e R s m args below meth c H locs cells slots Q (F0 m (pc + 3) ls (.ref (ad (19, 0, 0, 0)) :: rest))) : W p l e R s m args below meth c H locs cells slots Q (F0 m pc ls (.ref (ad (18, 0, 0, 0)) :: rest)) := r_get C hP hi rfl inX3 rfl 1 (by decide) mw_223 rfl hdg kk
theorem gf_235 (C : cx p s m args meth c cc nL rt RX2 G) (hP : wd G I ad M H) (hi : I (20, 0, 0, 0)) (hdg : decode cc pc = .ok (.getfield 15, 3)) (kk : W p l e R s m args below meth c H locs cells slots Q (F0 m (pc + 3) ls (.ref (ad (21, 0, 0, 0)) :: rest))) : W p l e R s m args below meth c H locs cells slots Q (F0 m pc ls (.ref (ad (20, 0, 0, 0)) :: rest)) := r_get C hP hi rfl inX2 rfl 0 (by decide) mw_235 rfl hdg kk
theorem gf_236 (C : cx p s m args meth c cc nL rt RX8 G) (hP : wd G I ad M H) (hi : I (20, 0, 0, 0)) (hdg : decode cc pc = .ok (.getfield 166, 3)) (kk : W p l e R s m args below meth c H locs cells slots Q (F0 m (pc + 3) ls (.ref (ad (21, 0, 0, 0)) :: rest))) : W p l e R s m args below meth c H locs cells slots Q (F0 m pc ls (.ref (ad (20, 0, 0, 0)) :: rest)) := r_get C hP hi rfl inX2 rfl 0 (by decide) mw_236 rfl hdg kk
theorem gf_237 (C : cx p s m args meth c cc nL rt RX2 G) (hP : wd G I ad M H) (hi : I (20, 0, 0, 0)) (hdg : decode cc pc = .ok (.getfield 19, 3)) (kk : W p l e R s m args below meth c H locs cells slots Q (F0 m (pc + 3) ls (.ref (ad (22, 0, 0, 0)) :: rest))) : W p l e R s m args below meth c H locs cells slots Q (F0 m pc ls (.ref (ad (20, 0, 0, 0)) :: rest)) := r_get C hP hi rfl inX2 rfl 1 (by decide) mw_237 rfl hdg kk
theorem gf_238 (C : cx p s m args meth c cc nL rt RX8 G) (hP : wd G I ad M H) (hi : I (20, 0, 0, 0)) (hdg : decode cc pc = .ok (.getfield 169, 3)) (kk : W p l e R s m args below meth c H locs cells slots Q (F0 m (pc + 3) ls (.ref (ad (22, 0, 0, 0)) :: rest))) : W p l e R s m args below meth c H locs cells slots Q (F0 m pc ls (.ref (ad (20, 0, 0, 0)) :: rest)) := r_get C hP hi rfl inX2 rfl 1 (by decide) mw_238 rfl hdg kk
theorem gf_239 (C : cx p s m args meth c cc nL rt RX2 G) (hP : wd G I ad M H) (hi : I (20, 0, 0, 0)) (hdg : decode cc pc = .ok (.getfield 22, 3)) (kk : W p l e R s m args below meth c H locs cells slots Q (F0 m (pc + 3) ls (.ref (ad (23, 0, 0, 0)) :: rest))) : W p l e R s m args below meth c H locs cells slots Q (F0 m pc ls (.ref (ad (20, 0, 0, 0)) :: rest)) := r_get C hP hi rfl inX2 rfl 2 (by decide) mw_239 rfl hdg kk
theorem gf_240 (C : cx p s m args meth c cc nL rt RX8 G) (hP : wd G I ad M H) (hi : I (20, 0, 0, 0)) (hdg : decode cc pc = .ok (.getfield 172, 3)) (kk : W p l e R s m args below meth c H locs cells slots Q (F0 m (pc + 3) ls (.ref (ad (23, 0, 0, 0)) :: rest))) : W p l e R s m args below meth c H locs cells slots Q (F0 m pc ls (.ref (ad (20, 0, 0, 0)) :: rest)) := r_get C hP hi rfl inX2 rfl 2 (by decide) mw_240 rfl hdg kk
theorem gf_241 (C : cx p s m args meth c cc nL rt RX2 G) (hP : wd G I ad M H) (hi : I (20, 0, 0, 0)) (hdg : decode cc pc = .ok (.getfield 9, 3)) (kk : W p l e R s m args below meth c H locs cells slots Q (F0 m (pc + 3) ls (.ref (ad (11, 0, 0, 0)) :: rest))) : W p l e R s m args below meth c H locs cells slots Q (F0 m pc ls (.ref (ad (20, 0, 0, 0)) :: rest)) := r_get C hP hi rfl inX2 rfl 3 (by decide) mw_241 rfl hdg kk
theorem gf_257 (C : cx p s m args meth c cc nL rt RX4 G) (hP : wd G I ad M H) (hi : I (26, 0, 0, 0)) (hdg : decode cc pc = .ok (.getfield 15, 3)) (kk : W p l e R s m args below meth c H locs cells slots Q (F0 m (pc + 3) ls (.int (M.1 (26, 0, 0, 0) 0) :: rest))) : W p l e R s m args below meth c H locs cells slots Q (F0 m pc ls (.ref (ad (26, 0, 0, 0)) :: rest)) := r_get C hP hi rfl inX4 rfl 0 (by decide) mw_257 rfl hdg kk
theorem pf_257 {v : Int32} (C : cx p s m args meth c cc nL rt RX4 G) (hP : wd G I ad M H) (hS : va_S (fA I ad) s.heap H locs) (hi : I (26, 0, 0, 0)) (hdg : decode cc pc = .ok (.putfield 15, 3)) (kk : ∀ (H1 : Heap) (locs1 : List Loc), wd G I ad (mu M (26, 0, 0, 0) 0 v) H1 → va_S (fA I ad) s.heap H1 locs1 → W p l e R s m args below meth c H1 locs1 cells slots Q (F0 m (pc + 3) ls rest)) : W p l e R s m args below meth c H locs cells slots Q (F0 m pc ls (.int v :: .ref (ad (26, 0, 0, 0)) :: rest)) := r_put C hP hS hi rfl inX4 tyX4 tyX4_ok nmX4 rfl 0 (by decide) mw_257 rfl (ty := .int) (by decide +kernel) rfl rfl (Nat.le_of_ble_eq_true rfl) (by rfl) hdg kk
theorem gf_258 (C : cx p s m args meth c cc nL rt RX8 G) (hP : wd G I ad M H) (hi : I (26, 0, 0, 0)) (hdg : decode cc pc = .ok (.getfield 242, 3)) (kk : W p l e R s m args below meth c H locs cells slots Q (F0 m (pc + 3) ls (.int (M.1 (26, 0, 0, 0) 0) :: rest))) : W p l e R s m args below meth c H locs cells slots Q (F0 m pc ls (.ref (ad (26, 0, 0, 0)) :: rest)) := r_get C hP hi rfl inX4 rfl 0 (by decide) mw_258 rfl hdg kk
theorem gf_259 (C : cx p s m args meth c cc nL rt RX4 G) (hP : wd G I ad M H) (hi : I (26, 0, 0, 0)) (hdg : decode cc pc = .ok (.getfield 9, 3)) (kk : W p l e R s m args below meth c H locs cells slots Q (F0 m (pc + 3) ls (.ref (ad (27, 0, 0, 0)) :: rest))) : W p l e R s m args below meth c H locs cells slots Q (F0 m pc ls (.ref (ad (26, 0, 0, 0)) :: rest)) := r_get C hP hi rfl inX4 rfl 1 (by decide) mw_259 rfl hdg kk
theorem gf_277 (C : cx p s m args meth c cc nL rt RX7 G) (hP : wd G I ad M H) (hi : I (28, 0, 0, 0)) (hdg : decode cc pc = .ok (.getfield 15, 3)) (kk : W p l e R s m args below meth c H locs cells slots Q (F0 m (pc + 3) ls (.int (M.1 (28, 0, 0, 0) 0) :: rest))) : W p l e R s m args below meth c H locs cells slots Q (F0 m pc ls (.ref (ad (28, 0, 0, 0)) :: rest)) := r_get C hP hi rfl inX7 rfl 0 (by decide) mw_277 rfl hdg kk
theorem pf_277 {v : Int32} (C : cx p s m args meth c cc nL rt RX7 G) (hP : wd G I ad M H) (hS : va_S (fA I ad) s.heap H locs) (hi : I (28, 0, 0, 0)) (hdg : decode cc pc = .ok (.putfield 15, 3)) (kk : ∀ (H1 : Heap) (locs1 : List Loc), wd G I ad (mu M (28, 0, 0, 0) 0 v) H1 → va_S (fA I ad) s.heap H1 locs1 → W p l e R s m args below meth c H1 locs1 cells slots Q (F0 m (pc + 3) ls rest)) : W p l e R s m args below meth c H locs cells slots Q (F0 m pc ls (.int v :: .ref (ad (28, 0, 0, 0)) :: rest)) := r_put C hP hS hi rfl inX7 tyX7 tyX7_ok nmX7 rfl 0 (by decide) mw_277 rfl (ty := .int) (by decide +kernel) rfl rfl (Nat.le_of_ble_eq_true rfl) (by rfl) hdg kk
theorem gf_278 (C : cx p s m args meth c cc nL rt RX8 G) (hP : wd G I ad M H) (hi : I (28, 0, 0, 0)) (hdg : decode cc pc = .ok (.getfield 204, 3)) (kk : W p l e R s m args below meth c H locs cells slots Q (F0 m (pc + 3) ls (.int (M.1 (28, 0, 0, 0) 0) :: rest))) : W p l e R s m args below meth c H locs cells slots Q (F0 m pc ls (.ref (ad (28, 0, 0, 0)) :: rest)) := r_get C hP hi rfl inX7 rfl 0 (by decide) mw_278 rfl hdg kk
theorem gf_279 (C : cx p s m args meth c cc nL rt RX7 G) (hP : wd G I ad M H) (hi : I (28, 0, 0, 0)) (hdg : decode cc pc = .ok (.getfield 19, 3)) (kk : W p l e R s m args below meth c H locs cells slots Q (F0 m (pc + 3) ls (.int (M.1 (28, 0, 0, 0) 1) :: rest))) : W p l e R s m args below meth c H locs cells slots Q (F0 m pc ls (.ref (ad (28, 0, 0, 0)) :: rest)) := r_get C hP hi rfl inX7 rfl 1 (by decide) mw_279 rfl hdg kk
theorem pf_279 {v : Int32} (C : cx p s m args meth c cc nL rt RX7 G) (hP : wd G I ad M H) (hS : va_S (fA I ad) s.heap H locs) (hi : I (28, 0, 0, 0)) (hdg : decode cc pc = .ok (.putfield 19, 3)) (kk : ∀ (H1 : Heap) (locs1 : List Loc), wd G I ad (mu M (28, 0, 0, 0) 1 v) H1 → va_S (fA I ad) s.heap H1 locs1 → W p l e R s m args below meth c H1 locs1 cells slots Q (F0 m (pc + 3) ls rest)) : W p l e R s m args below meth c H locs cells slots Q (F0 m pc ls (.int v :: .ref (ad (28, 0, 0, 0)) :: rest)) := r_put C hP hS hi rfl inX7 tyX7 tyX7_ok nmX7 rfl 1 (by decide) mw_279 rfl (ty := .int) (by decide +kernel) rfl rfl (Nat.le_of_ble_eq_true rfl) (by rfl) hdg kk
theorem gf_280 (C : cx p s m args meth c cc nL rt RX8 G) (hP : wd G I ad M H) (hi : I (28, 0, 0, 0)) (hdg : decode cc pc = .ok (.getfield 205, 3)) (kk : W p l e R s m args below meth c H locs cells slots Q (F0 m (pc + 3) ls (.int (M.1 (28, 0, 0, 0) 1) :: rest))) : W p l e R s m args below meth c H locs cells slots Q (F0 m pc ls (.ref (ad (28, 0, 0, 0)) :: rest)) := r_get C hP hi rfl inX7 rfl 1 (by decide) mw_280 rfl hdg kk
theorem gf_281 (C : cx p s m args meth c cc nL rt RX7 G) (hP : wd G I ad M H) (hi : I (28, 0, 0, 0)) (hdg : decode cc pc = .ok (.getfield 22, 3)) (kk : W p l e R s m args below meth c H locs cells slots Q (F0 m (pc + 3) ls (.int (M.1 (28, 0, 0, 0) 2) :: rest))) : W p l e R s m args below meth c H locs cells slots Q (F0 m pc ls (.ref (ad (28, 0, 0, 0)) :: rest)) := r_get C hP hi rfl inX7 rfl 2 (by decide) mw_281 rfl hdg kk
theorem pf_281 {v : Int32} (C : cx p s m args meth c cc nL rt RX7 G) (hP : wd G I ad M H) (hS : va_S (fA I ad) s.heap H locs) (hi : I (28, 0, 0, 0)) (hdg : decode cc pc = .ok (.putfield 22, 3)) (kk : ∀ (H1 : Heap) (locs1 : List Loc), wd G I ad (mu M (28, 0, 0, 0) 2 v) H1 → va_S (fA I ad) s.heap H1 locs1 → W p l e R s m args below meth c H1 locs1 cells slots Q (F0 m (pc + 3) ls rest)) : W p l e R s m args below meth c H locs cells slots Q (F0 m pc ls (.int v :: .ref (ad (28, 0, 0, 0)) :: rest)) := r_put C hP hS hi rfl inX7 tyX7 tyX7_ok nmX7 rfl 2 (by decide) mw_281 rfl (ty := .int) (by decide +kernel) rfl rfl (Nat.le_of_ble_eq_true rfl) (by rfl) hdg kk
theorem gf_282 (C : cx p s m args meth c cc nL rt RX8 G) (hP : wd G I ad M H) (hi : I (28, 0, 0, 0)) (hdg : decode cc pc = .ok (.getfield 206, 3)) (kk : W p l e R s m args below meth c H locs cells slots Q (F0 m (pc + 3) ls (.int (M.1 (28, 0, 0, 0) 2) :: rest))) : W p l e R s m args below meth c H locs cells slots Q (F0 m pc ls (.ref (ad (28, 0, 0, 0)) :: rest)) := r_get C hP hi rfl inX7 rfl 2 (by decide) mw_282 rfl hdg kk
theorem gf_283 (C : cx p s m args meth c cc nL rt RX7 G) (hP : wd G I ad M H) (hi : I (28, 0, 0, 0)) (hdg : decode cc pc = .ok (.getfield 25, 3)) (kk : W p l e R s m args below meth c H locs cells slots Q (F0 m (pc + 3) ls (.int (M.1 (28, 0, 0, 0) 3) :: rest))) : W p l e R s m args below meth c H locs cells slots Q (F0 m pc ls (.ref (ad (28, 0, 0, 0)) :: rest)) := r_get C hP hi rfl inX7 rfl 3 (by decide) mw_283 rfl hdg kk
theorem pf_283 {v : Int32} (C : cx p s m args meth c cc nL rt RX7 G) (hP : wd G I ad M H) (hS : va_S (fA I ad) s.heap H locs) (hi : I (28, 0, 0, 0)) (hdg : decode cc pc = .ok (.putfield 25, 3)) (kk : ∀ (H1 : Heap) (locs1 : List Loc), wd G I ad (mu M (28, 0, 0, 0) 3 v) H1 → va_S (fA I ad) s.heap H1 locs1 → W p l e R s m args below meth c H1 locs1 cells slots Q (F0 m (pc + 3) ls rest)) : W p l e R s m args below meth c H locs cells slots Q (F0 m pc ls (.int v :: .ref (ad (28, 0, 0, 0)) :: rest)) := r_put C hP hS hi rfl inX7 tyX7 tyX7_ok nmX7 rfl 3 (by decide) mw_283 rfl (ty := .int) (by decide +kernel) rfl rfl (Nat.le_of_ble_eq_true rfl) (by rfl) hdg kk
theorem gf_284 (C : cx p s m args meth c cc nL rt RX8 G) (hP : wd G I ad M H) (hi : I (28, 0, 0, 0)) (hdg : decode cc pc = .ok (.getfield 209, 3)) (kk : W p l e R s m args below meth c H locs cells slots Q (F0 m (pc + 3) ls (.int (M.1 (28, 0, 0, 0) 3) :: rest))) : W p l e R s m args below meth c H locs cells slots Q (F0 m pc ls (.ref (ad (28, 0, 0, 0)) :: rest)) := r_get C hP hi rfl inX7 rfl 3 (by decide) mw_284 rfl hdg kk
theorem gf_294 (C : cx p s m args meth c cc nL rt RX8 G) (hP : wd G I ad M H) (hi : I (0, 0, 0, 0)) (hdg : decode cc pc = .ok (.getfield 12, 3)) (kk : W p l e R s m args below meth c H locs cells slots Q (F0 m (pc + 3) ls (.ref (ad (1, 0, 0, 0)) :: rest))) : W p l e R s m args below meth c H locs cells slots Q (F0 m pc ls (.ref (ad (0, 0, 0, 0)) :: rest)) := r_get C hP hi rfl inX8 rfl 0 (by decide) mw_294 rfl hdg kk
theorem gf_295 (C : cx p s m args meth c cc nL rt RX8 G) (hP : wd G I ad M H) (hi : I (0, 0, 0, 0)) (hdg : decode cc pc = .ok (.getfield 16, 3)) (kk : W p l e R s m args below meth c H locs cells slots Q (F0 m (pc + 3) ls (.ref (ad (10, 0, 0, 0)) :: rest))) : W p l e R s m args below meth c H locs cells slots Q (F0 m pc ls (.ref (ad (0, 0, 0, 0)) :: rest)) := r_get C hP hi rfl inX8 rfl 1 (by decide) mw_295 rfl hdg kk
theorem gf_296 (C : cx p s m args meth c cc nL rt RX8 G) (hP : wd G I ad M H) (hi : I (0, 0, 0, 0)) (hdg : decode cc pc = .ok (.getfield 23, 3)) (kk : W p l e R s m args below meth c H locs cells slots Q (F0 m (pc + 3) ls (.ref (ad (11, 0, 0, 0)) :: rest))) : W p l e R s m args below meth c H locs cells slots Q (F0 m pc ls (.ref (ad (0, 0, 0, 0)) :: rest)) := r_get C hP hi rfl inX8 rfl 2 (by decide) mw_296 rfl hdg kk
theorem gf_297 (C : cx p s m args meth c cc nL rt RX8 G) (hP : wd G I ad M H) (hi : I (0, 0, 0, 0)) (hdg : decode cc pc = .ok (.getfield 32, 3)) (kk : W p l e R s m args below meth c H locs cells slots Q (F0 m (pc + 3) ls (.ref (ad (18, 0, 0, 0)) :: rest))) : W p l e R s m args below meth c H locs cells slots Q (F0 m pc ls (.ref (ad (0, 0, 0, 0)) :: rest)) := r_get C hP hi rfl inX8 rfl 3 (by decide) mw_297 rfl hdg kk
theorem gf_298 (C : cx p s m args meth c cc nL rt RX8 G) (hP : wd G I ad M H) (hi : I (0, 0, 0, 0)) (hdg : decode cc pc = .ok (.getfield 39, 3)) (kk : W p l e R s m args below meth c H locs cells slots Q (F0 m (pc + 3) ls (.ref (ad (20, 0, 0, 0)) :: rest))) : W p l e R s m args below meth c H locs cells slots Q (F0 m pc ls (.ref (ad (0, 0, 0, 0)) :: rest)) := r_get C hP hi rfl inX8 rfl 4 (by decide) mw_298 rfl hdg kk
theorem gf_299 (C : cx p s m args meth c cc nL rt RX8 G) (hP : wd G I ad M H) (hi : I (0, 0, 0, 0)) (hdg : decode cc pc = .ok (.getfield 43, 3)) (kk : W p l e R s m args below meth c H locs cells slots Q (F0 m (pc + 3) ls (.ref (ad (24, 0, 0, 0)) :: rest))) : W p l e R s m args below meth c H locs cells slots Q (F0 m pc ls (.ref (ad (0, 0, 0, 0)) :: rest)) := r_get C hP hi rfl inX8 rfl 5 (by decide) mw_299 rfl hdg kk
theorem gf_300 (C : cx p s m args meth c cc nL rt RX8 G) (hP : wd G I ad M H) (hi : I (0, 0, 0, 0)) (hdg : decode cc pc = .ok (.getfield 47, 3)) (kk : W p l e R s m args below meth c H locs cells slots Q (F0 m (pc + 3) ls (.ref (ad (25, 0, 0, 0)) :: rest))) : W p l e R s m args below meth c H locs cells slots Q (F0 m pc ls (.ref (ad (0, 0, 0, 0)) :: rest)) := r_get C hP hi rfl inX8 rfl 6 (by decide) mw_300 rfl hdg kk
theorem gf_301 (C : cx p s m args meth c cc nL rt RX8 G) (hP : wd G I ad M H) (hi : I (0, 0, 0, 0)) (hdg : decode cc pc = .ok (.getfield 53, 3)) (kk : W p l e R s m args below meth c H locs cells slots Q (F0 m (pc + 3) ls (.ref (ad (26, 0, 0, 0)) :: rest))) : W p l e R s m args below meth c H locs cells slots Q (F0 m pc ls (.ref (ad (0, 0, 0, 0)) :: rest)) := r_get C hP hi rfl inX8 rfl 7 (by decide) mw_301 rfl hdg kk
theorem gf_302 (C : cx p s m args meth c cc nL rt RX8 G) (hP : wd G I ad M H) (hi : I (0, 0, 0, 0)) (hdg : decode cc pc = .ok (.getfield 60, 3)) (kk : W p l e R s m args below meth c H locs cells slots Q (F0 m (pc + 3) ls (.ref (ad (28, 0, 0, 0)) :: rest))) : W p l e R s m args below meth c H locs cells slots Q (F0 m pc ls (.ref (ad (0, 0, 0, 0)) :: rest)) := r_get C hP hi rfl inX8 rfl 8 (by decide) mw_302 rfl hdg kk
theorem gf_716 (C : cx p s m args meth c cc nL rt RX9 G) (hP : wd G I ad M H) (hi : I (29, 0, 0, 0)) (hdg : decode cc pc = .ok (.getfield 7, 3)) (kk : W p l e R s m args below meth c H locs cells slots Q (F0 m (pc + 3) ls (.ref (ad (30, 0, 0, 0)) :: rest))) : W p l e R s m args below meth c H locs cells slots Q (F0 m pc ls (.ref (ad (29, 0, 0, 0)) :: rest)) := r_get C hP hi rfl inX9 rfl 0 (by decide) mw_716 rfl hdg kk
theorem gf_717 (C : cx p s m args meth c cc nL rt RX9 G) (hP : wd G I ad M H) (hi : I (29, 0, 0, 0)) (hdg : decode cc pc = .ok (.getfield 13, 3)) (kk : W p l e R s m args below meth c H locs cells slots Q (F0 m (pc + 3) ls (.ref (ad (31, 0, 0, 0)) :: rest))) : W p l e R s m args below meth c H locs cells slots Q (F0 m pc ls (.ref (ad (29, 0, 0, 0)) :: rest)) := r_get C hP hi rfl inX9 rfl 1 (by decide) mw_717 rfl hdg kk
theorem gf_718 (C : cx p s m args meth c cc nL rt RX9 G) (hP : wd G I ad M H) (hi : I (29, 0, 0, 0)) (hdg : decode cc pc = .ok (.getfield 16, 3)) (kk : W p l e R s m args below meth c H locs cells slots Q (F0 m (pc + 3) ls (.ref (ad (32, 0, 0, 0)) :: rest))) : W p l e R s m args below meth c H locs cells slots Q (F0 m pc ls (.ref (ad (29, 0, 0, 0)) :: rest)) := r_get C hP hi rfl inX9 rfl 2 (by decide) mw_718 rfl hdg kk
theorem gf_719 (C : cx p s m args meth c cc nL rt RX9 G) (hP : wd G I ad M H) (hi : I (29, 0, 0, 0)) (hdg : decode cc pc = .ok (.getfield 19, 3)) (kk : W p l e R s m args below meth c H locs cells slots Q (F0 m (pc + 3) ls (.ref (ad (33, 0, 0, 0)) :: rest))) : W p l e R s m args below meth c H locs cells slots Q (F0 m pc ls (.ref (ad (29, 0, 0, 0)) :: rest)) := r_get C hP hi rfl inX9 rfl 3 (by decide) mw_719 rfl hdg kk
theorem gf_720 (C : cx p s m args meth c cc nL rt RX9 G) (hP : wd G I ad M H) (hi : I (29, 0, 0, 0)) (hdg : decode cc pc = .ok (.getfield 102, 3)) (kk : W p l e R s m args below meth c H locs cells slots Q (F0 m (pc + 3) ls (.int (M.1 (29, 0, 0, 0) 4) :: rest))) : W p l e R s m args below meth c H locs cells slots Q (F0 m pc ls (.ref (ad (29, 0, 0, 0)) :: rest)) := r_get C hP hi rfl inX9 rfl 4 (by decide) mw_720 rfl hdg kk
theorem pf_720 {v : Int32} (C : cx p s m args meth c cc nL rt RX9 G) (hP : wd G I ad M H) (hS : va_S (fA I ad) s.heap H locs) (hi : I (29, 0, 0, 0)) (hdg : decode cc pc = .ok (.putfield 102, 3)) (kk : ∀ (H1 : Heap) (locs1 : List Loc), wd G I ad (mu M (29, 0, 0, 0) 4 v) H1 → va_S (fA I ad) s.heap H1 locs1 → W p l e R s m args below meth c H1 locs1 cells slots Q (F0 m (pc + 3) ls rest)) : W p l e R s m args below meth c H locs cells slots Q (F0 m pc ls (.int v :: .ref (ad (29, 0, 0, 0)) :: rest)) := r_put C hP hS hi rfl inX9 tyX9 tyX9_ok nmX9 rfl 4 (by decide) mw_720 rfl (ty := .int) (by decide +kernel) rfl rfl (Nat.le_of_ble_eq_true rfl) (by rfl) hdg kk
theorem gf_721 (C : cx p s m args meth c cc nL rt RX9 G) (hP : wd G I ad M H) (hi : I (29, 0, 0, 0)) (hdg : decode cc pc = .ok (.getfield 22, 3)) (kk : W p l e R s m args below meth c H locs cells slots Q (F0 m (pc + 3) ls (.ref (ad (34, 0, 0, 0)) :: rest))) : W p l e R s m args below meth c H locs cells slots Q (F0 m pc ls (.ref (ad (29, 0, 0, 0)) :: rest)) := r_get C hP hi rfl inX9 rfl 5 (by decide) mw_721 rfl hdg kk
theorem gf_722 (C : cx p s m args meth c cc nL rt RX9 G) (hP : wd G I ad M H) (hi : I (29, 0, 0, 0)) (hdg : decode cc pc = .ok (.getfield 25, 3)) (kk : W p l e R s m args below meth c H locs cells slots Q (F0 m (pc + 3) ls (.ref (ad (35, 0, 0, 0)) :: rest))) : W p l e R s m args below meth c H locs cells slots Q (F0 m pc ls (.ref (ad (29, 0, 0, 0)) :: rest)) := r_get C hP hi rfl inX9 rfl 6 (by decide) mw_722 rfl hdg kk
theorem gf_723 (C : cx p s m args meth c cc nL rt RX9 G) (hP : wd G I ad M H) (hi : I (29, 0, 0, 0)) (hdg : decode cc pc = .ok (.getfield 28, 3)) (kk : W p l e R s m args below meth c H locs cells slots Q (F0 m (pc + 3) ls (.ref (ad (36, 0, 0, 0)) :: rest))) : W p l e R s m args below meth c H locs cells slots Q (F0 m pc ls (.ref (ad (29, 0, 0, 0)) :: rest)) := r_get C hP hi rfl inX9 rfl 7 (by decide) mw_723 rfl hdg kk
theorem gf_724 (C : cx p s m args meth c cc nL rt RX9 G) (hP : wd G I ad M H) (hi : I (29, 0, 0, 0)) (hdg : decode cc pc = .ok (.getfield 31, 3)) (kk : W p l e R s m args below meth c H locs cells slots Q (F0 m (pc + 3) ls (.ref (ad (37, 0, 0, 0)) :: rest))) : W p l e R s m args below meth c H locs cells slots Q (F0 m pc ls (.ref (ad (29, 0, 0, 0)) :: rest)) := r_get C hP hi rfl inX9 rfl 8 (by decide) mw_724 rfl hdg kk
theorem gf_725 (C : cx p s m args meth c cc nL rt RX9 G) (hP : wd G I ad M H) (hi : I (29, 0, 0, 0)) (hdg : decode cc pc = .ok (.getfield 34, 3)) (kk : W p l e R s m args below meth c H locs cells slots Q (F0 m (pc + 3) ls (.ref (ad (38, 0, 0, 0)) :: rest))) : W p l e R s m args below meth c H locs cells slots Q (F0 m pc ls (.ref (ad (29, 0, 0, 0)) :: rest)) := r_get C hP hi rfl inX9 rfl 9 (by decide) mw_725 rfl hdg kk
theorem gf_726 (C : cx p s m args meth c cc nL rt RX9 G) (hP : wd G I ad M H) (hi : I (29, 0, 0, 0)) (hdg : decode cc pc = .ok (.getfield 37, 3)) (kk : W p l e R s m args below meth c H locs cells slots Q (F0 m (pc + 3) ls (.ref (ad (39, 0, 0, 0)) :: rest))) : W p l e R s m args below meth c H locs cells slots Q (F0 m pc ls (.ref (ad (29, 0, 0, 0)) :: rest)) := r_get C hP hi rfl inX9 rfl 10 (by decide) mw_726 rfl hdg kk
theorem gf_727 (C : cx p s m args meth c cc nL rt RX9 G) (hP : wd G I ad M H) (hi : I (29, 0, 0, 0)) (hdg : decode cc pc = .ok (.getfield 40, 3)) (kk : W p l e R s m args below meth c H locs cells slots Q (F0 m (pc + 3) ls (.ref (ad (40, 0, 0, 0)) :: rest))) : W p l e R s m args below meth c H locs cells slots Q (F0 m pc ls (.ref (ad (29, 0, 0, 0)) :: rest)) := r_get C hP hi rfl inX9 rfl 11 (by decide) mw_727 rfl hdg kk
theorem gf_728 (C : cx p s m args meth c cc nL rt RX9 G) (hP : wd G I ad M H) (hi : I (29, 0, 0, 0)) (hdg : decode cc pc = .ok (.getfield 43, 3)) (kk : W p l e R s m args below meth c H locs cells slots Q (F0 m (pc + 3) ls (.ref (ad (41, 0, 0, 0)) :: rest))) : W p l e R s m args below meth c H locs cells slots Q (F0 m pc ls (.ref (ad (29, 0, 0, 0)) :: rest)) := r_get C hP hi rfl inX9 rfl 12 (by decide) mw_728 rfl hdg kk
theorem gf_729 (C : cx p s m args meth c cc nL rt RX9 G) (hP : wd G I ad M H) (hi : I (29, 0, 0, 0)) (hdg : decode cc pc = .ok (.getfield 46, 3)) (kk : W p l e R s m args below meth c H locs cells slots Q (F0 m (pc + 3) ls (.ref (ad (42, 0, 0, 0)) :: rest))) : W p l e R s m args below meth c H locs cells slots Q (F0 m pc ls (.ref (ad (29, 0, 0, 0)) :: rest)) := r_get C hP hi rfl inX9 rfl 13 (by decide) mw_729 rfl hdg kk
theorem gf_730 (C : cx p s m args meth c cc nL rt RX9 G) (hP : wd G I ad M H) (hi : I (29, 0, 0, 0)) (hdg : decode cc pc = .ok (.getfield 49, 3)) (kk : W p l e R s m args below meth c H locs cells slots Q (F0 m (pc + 3) ls (.ref (ad (43, 0, 0, 0)) :: rest))) : W p l e R s m args below meth c H locs cells slots Q (F0 m pc ls (.ref (ad (29, 0, 0, 0)) :: rest)) := r_get C hP hi rfl inX9 rfl 14 (by decide) mw_730 rfl hdg kk
theorem gf_731 (C : cx p s m args meth c cc nL rt RX9 G) (hP : wd G I ad M H) (hi : I (29, 0, 0, 0)) (hdg : decode cc pc = .ok (.getfield 52, 3)) (kk : W p l e R s m args below meth c H locs cells slots Q (F0 m (pc + 3) ls (.ref (ad (44, 0, 0, 0)) :: rest))) : W p l e R s m args below meth c H locs cells slots Q (F0 m pc ls (.ref (ad (29, 0, 0, 0)) :: rest)) := r_get C hP hi rfl inX9 rfl 15 (by decide) mw_731 rfl hdg kk
theorem gf_732 (C : cx p s m args meth c cc nL rt RX9 G) (hP : wd G I ad M H) (hi : I (29, 0, 0, 0)) (hdg : decode cc pc = .ok (.getfield 55, 3)) (kk : W p l e R s m args below meth c H locs cells slots Q (F0 m (pc + 3) ls (.ref (ad (45, 0, 0, 0)) :: rest))) : W p l e R s m args below meth c H locs cells slots Q (F0 m pc ls (.ref (ad (29, 0, 0, 0)) :: rest)) := r_get C hP hi rfl inX9 rfl 16 (by decide) mw_732 rfl hdg kk
theorem gf_733 (C : cx p s m args meth c cc nL rt RX9 G) (hP : wd G I ad M H) (hi : I (29, 0, 0, 0)) (hdg : decode cc pc = .ok (.getfield 58, 3)) (kk : W p l e R s m args below meth c H locs cells slots Q (F0 m (pc + 3) ls (.ref (ad (46, 0, 0, 0)) :: rest))) : W p l e R s m args below meth c H locs cells slots Q (F0 m pc ls (.ref (ad (29, 0, 0, 0)) :: rest)) := r_get C hP hi rfl inX9 rfl 17 (by decide) mw_733 rfl hdg kk
end FL
end
section

abbrev rm_X6_clear : Room := { frames := 0, cells := 0, slots := 0, locals := 0 }
theorem hd_X6_clear : yX6_clear.cls ≠ "java/lang/invoke/MethodHandle" ∧ yX6_clear.cls ≠ "java/lang/invoke/VarHandle" ∧ (parseMethodDescriptor yX6_clear.desc).map (fun d => d.parameters.length) = some 0 := ⟨by decide +kernel, by decide +kernel, by decide +kernel⟩
def w_X6_clear (s0 : Nat) (b0 : Nat) (c0 : Nat) (Q : Mem → Prop) (M : Mem) : Prop := (Q (mu (mu (mu (mu (mu M (7, s0, b0, c0) 0 (-2000000 : Int32)) (7, s0, b0, c0) 1 (-2000000 : Int32)) (7, s0, b0, c0) 2 (0 : Int32)) (7, s0, b0, c0) 3 (0 : Int32)) (7, s0, b0, c0) 4 (0 : Int32)))
section
variable {p : Program} {l : Launch} {e : Env} {s : State} {m : MethodId} {args : Array Value} {below : List Frame} {meth : Method} {c : Code} 
variable  {G : GG} {I : ix → Prop} {ad : ix → Nat}
set_option maxHeartbeats 4000000 in
set_option maxRecDepth 100000 in
theorem j_X6_clear_0 {s0 : Nat} {b0 : Nat} {c0 : Nat} (C : cx p s m args meth c cX6_clear 1 none RX6 G) (hC : clo I) (h0 : I (7, s0, b0, c0)) {Q : Mem → Prop} : ∀ (M : Mem) (H : Heap) (locs : List Loc) (ls : Array Slot), w_X6_clear s0 b0 c0 Q M → wd G I ad M H → va_S (fA I ad) s.heap H locs → lv_has ls 1 [(0, .ref (ad (7, s0, b0, c0)))] → W p l e rm_X6_clear s m args below meth c H locs 0 0 (MQ below (qV G I ad Q) args s 0 0 (fA I ad)) (F0 m 0 ls []) := by
  have hx := C.1
  have hb := C.2.1
  have hown := C.2.2.2.1
  have hts := C.2.2.2.2.1
  intro M H locs ls hw hP hS hl
  unfold w_X6_clear at hw
  refine lv_aload_n (pc := 0) hx hb dX6_clear_0 rfl (lv_at hl 0 rfl) ?_
  refine lv_ldc (pc := 1) (own := RX6) (v := (-2000000 : Int32)) hx hb hown (hts _ mw_102) dX6_clear_1 ?_
  refine pf_103 (pc := 3) C hP hS h0 dX6_clear_3 (fun H locs hP hS => ?_)
  refine lv_aload_n (pc := 6) hx hb dX6_clear_6 rfl (lv_at hl 0 rfl) ?_
  refine lv_ldc (pc := 7) (own := RX6) (v := (-2000000 : Int32)) hx hb hown (hts _ mw_102) dX6_clear_7 ?_
  refine pf_106 (pc := 9) C hP hS h0 dX6_clear_9 (fun H locs hP hS => ?_)
  refine lv_aload_n (pc := 12) hx hb dX6_clear_12 rfl (lv_at hl 0 rfl) ?_
  refine lv_iconst (pc := 13) (v := (0 : Int32)) hx hb dX6_clear_13 (by decide) ?_
  refine pf_109 (pc := 14) C hP hS h0 dX6_clear_14 (fun H locs hP hS => ?_)
  refine lv_aload_n (pc := 17) hx hb dX6_clear_17 rfl (lv_at hl 0 rfl) ?_
  refine lv_iconst (pc := 18) (v := (0 : Int32)) hx hb dX6_clear_18 (by decide) ?_
  refine pf_112 (pc := 19) C hP hS h0 dX6_clear_19 (fun H locs hP hS => ?_)
  refine lv_aload_n (pc := 22) hx hb dX6_clear_22 rfl (lv_at hl 0 rfl) ?_
  refine lv_iconst (pc := 23) (v := (0 : Int32)) hx hb dX6_clear_23 (by decide) ?_
  refine pf_114 (pc := 24) (by decide) C hP hS h0 dX6_clear_24 (fun H locs hP hS => ?_)
  exact r_vret (pc := 27) C hP hS hw dX6_clear_27
end
theorem k_X6_clear (l : Launch) (G : GG) {I : ix → Prop} {ad : ix → Nat} (hC : clo I) {s0 : Nat} {b0 : Nat} {c0 : Nat} (h0 : I (7, s0, b0, c0)) {Q : Mem → Prop} {M : Mem} (hw : w_X6_clear s0 b0 c0 Q M) : Met l yX6_clear (wW yX6_clear cX6_clear 1 none) rm_X6_clear (va_Pc [.ref (ad (7, s0, b0, c0))] (fun U => wd G I ad M U.heap ∧ wK G U)) (qV G I ad Q) 0 0 (fA I ad) := met_of (by decide +kernel) (Nat.le_of_ble_eq_true rfl) (fun p e s m below meth c C hP hS ls hl => j_X6_clear_0 C hC h0 _ _ _ _ hw hP hS hl)
abbrev rm_X6_placeOf : Room := { frames := 0, cells := 0, slots := 0, locals := 0 }
theorem hd_X6_placeOf : yX6_placeOf.cls ≠ "java/lang/invoke/MethodHandle" ∧ yX6_placeOf.cls ≠ "java/lang/invoke/VarHandle" ∧ (parseMethodDescriptor yX6_placeOf.desc).map (fun d => d.parameters.length) = some 1 := ⟨by decide +kernel, by decide +kernel, by decide +kernel⟩
def w_X6_placeOf_2 (s0 : Nat) (b0 : Nat) (c0 : Nat) (a1 : Int32) (Q : Int32 → Mem → Prop) : Nat → Int32 → Mem → Prop
  | 0, _, _ => False
  | n + 1, x2, M => (if (M.1 (7, s0, b0, c0) 3) ≤ x2 then (Q (-2000000 : Int32) M) else (vp_in x2 4 ∧ (if (M.1 (8, s0, b0, c0) x2.toNatClampNeg) = a1 then (Q x2 M) else ((w_X6_placeOf_2 s0 b0 c0 a1 Q n) (x2 + 1) M))))
def w_X6_placeOf (s0 : Nat) (b0 : Nat) (c0 : Nat) (a1 : Int32) (Q : Int32 → Mem → Prop) (M : Mem) : Prop := (∃ n : Nat, w_X6_placeOf_2 s0 b0 c0 a1 Q n (0 : Int32) M)
section
variable {p : Program} {l : Launch} {e : Env} {s : State} {m : MethodId} {args : Array Value} {below : List Frame} {meth : Method} {c : Code} 
variable  {G : GG} {I : ix → Prop} {ad : ix → Nat}
set_option maxHeartbeats 4000000 in
set_option maxRecDepth 100000 in
theorem j_X6_placeOf_2 {s0 : Nat} {b0 : Nat} {c0 : Nat} {a1 : Int32} (C : cx p s m args meth c cX6_placeOf 3 (some .int) RX6 G) (hC : clo I) (h0 : I (7, s0, b0, c0)) {Q : Int32 → Mem → Prop} : ∀ (n : Nat), ∀ (x2 : Int32) (M : Mem) (H : Heap) (locs : List Loc) (ls : Array Slot), w_X6_placeOf_2 s0 b0 c0 a1 Q n x2 M → wd G I ad M H → va_S (fA I ad) s.heap H locs → lv_has ls 3 [(0, .ref (ad (7, s0, b0, c0))), (1, .int a1), (2, .int x2)] → W p l e rm_X6_placeOf s m args below meth c H locs 0 0 (MQ below (qI G I ad Q) args s 0 0 (fA I ad)) (F0 m 2 ls []) := by
  have hx := C.1
  have hb := C.2.1
  have hown := C.2.2.2.1
  have hts := C.2.2.2.2.1
  intro n
  induction n with
  | zero =>
    intro x2 M H locs ls hw hP hS hl
    rw [w_X6_placeOf_2] at hw
    exact hw.elim
  | succ n ih =>
    intro x2 M H locs ls hw hP hS hl
    rw [w_X6_placeOf_2] at hw
    refine lv_iload_n (pc := 2) hx hb dX6_placeOf_2 rfl (lv_at hl 2 rfl) ?_
    refine lv_aload_n (pc := 3) hx hb dX6_placeOf_3 rfl (lv_at hl 0 rfl) ?_
    refine gf_112 (pc := 4) C hP h0 dX6_placeOf_4 ?_
    refine lv_icmp_ge (pc := 7) (tgt := 28) hx hb dX6_placeOf_7 (by decide) (fun h => ?_) (fun h => ?_)
    · replace hw := if_t h hw
      refine lv_ldc (pc := 28) (own := RX6) (v := (-2000000 : Int32)) hx hb hown (hts _ mw_102) dX6_placeOf_28 ?_
      exact r_iret (pc := 30) C hP hS hw dX6_placeOf_30
    · replace hw := if_f h hw
      refine lv_aload_n (pc := 10) hx hb dX6_placeOf_10 rfl (lv_at hl 0 rfl) ?_
      refine gf_116 (pc := 11) C hP h0 dX6_placeOf_11 ?_
      refine lv_iload_n (pc := 14) hx hb dX6_placeOf_14 rfl (lv_at hl 2 rfl) ?_
      refine r_ialdK (pc := 15) (n := 4) (k := x2.toNatClampNeg) C hP (cl_7_5 hC h0) (fun _ _ _ _ => rfl) hw.1 rfl dX6_placeOf_15 ?_
      replace hw := hw.2
      refine lv_iload_n (pc := 16) hx hb dX6_placeOf_16 rfl (lv_at hl 1 rfl) ?_
      refine lv_icmp_ne (pc := 17) (tgt := 22) hx hb dX6_placeOf_17 (by decide) (fun h => ?_) (fun h => ?_)
      · replace hw := if_f h hw
        refine lv_iinc (pc := 22) (v := x2 + 1) (lv' := [(2, .int (x2 + 1)), (0, .ref (ad (7, s0, b0, c0))), (1, .int a1)]) hx hb dX6_placeOf_22 hl (k := 2) rfl rfl (by decide) rfl (fun ls hl => ?_)
        refine lv_goto (pc := 25) (tgt := 2) hx hb dX6_placeOf_25 (by decide) ?_
        exact ih (x2 + 1) M _ _ _ hw hP hS (lv_sub hl [1, 2, 0] rfl)
      · replace hw := if_t h hw
        refine lv_iload_n (pc := 20) hx hb dX6_placeOf_20 rfl (lv_at hl 2 rfl) ?_
        exact r_iret (pc := 21) C hP hS hw dX6_placeOf_21
set_option maxHeartbeats 4000000 in
set_option maxRecDepth 100000 in
theorem j_X6_placeOf_0 {s0 : Nat} {b0 : Nat} {c0 : Nat} {a1 : Int32} (C : cx p s m args meth c cX6_placeOf 3 (some .int) RX6 G) (hC : clo I) (h0 : I (7, s0, b0, c0)) {Q : Int32 → Mem → Prop} : ∀ (M : Mem) (H : Heap) (locs : List Loc) (ls : Array Slot), w_X6_placeOf s0 b0 c0 a1 Q M → wd G I ad M H → va_S (fA I ad) s.heap H locs → lv_has ls 3 [(0, .ref (ad (7, s0, b0, c0))), (1, .int a1)] → W p l e rm_X6_placeOf s m args below meth c H locs 0 0 (MQ below (qI G I ad Q) args s 0 0 (fA I ad)) (F0 m 0 ls []) := by
  have hx := C.1
  have hb := C.2.1
  have hown := C.2.2.2.1
  have hts := C.2.2.2.2.1
  intro M H locs ls hw hP hS hl
  unfold w_X6_placeOf at hw
  refine lv_iconst (pc := 0) (v := (0 : Int32)) hx hb dX6_placeOf_0 (by decide) ?_
  refine lv_istore_n (pc := 1) (lv' := [(2, .int (0 : Int32)), (0, .ref (ad (7, s0, b0, c0))), (1, .int a1)]) hx hb dX6_placeOf_1 rfl hl (by decide) rfl (fun ls hl => ?_)
  obtain ⟨n0, hw⟩ := hw
  exact j_X6_placeOf_2 C hC h0 n0 (0 : Int32) M _ _ _ hw hP hS (lv_sub hl [1, 2, 0] rfl)
end
theorem k_X6_placeOf (l : Launch) (G : GG) {I : ix → Prop} {ad : ix → Nat} (hC : clo I) {s0 : Nat} {b0 : Nat} {c0 : Nat} {a1 : Int32} (h0 : I (7, s0, b0, c0)) {Q : Int32 → Mem → Prop} {M : Mem} (hw : w_X6_placeOf s0 b0 c0 a1 Q M) : Met l yX6_placeOf (wW yX6_placeOf cX6_placeOf 3 (some .int)) rm_X6_placeOf (va_Pc [.ref (ad (7, s0, b0, c0)), .int a1] (fun U => wd G I ad M U.heap ∧ wK G U)) (qI G I ad Q) 0 0 (fA I ad) := met_of (by decide +kernel) (Nat.le_of_ble_eq_true rfl) (fun p e s m below meth c C hP hS ls hl => j_X6_placeOf_0 C hC h0 _ _ _ _ hw hP hS hl)
abbrev rm_X6_enlist : Room := { frames := 1, cells := 0, slots := 0, locals := 22 }
theorem hd_X6_enlist : yX6_enlist.cls ≠ "java/lang/invoke/MethodHandle" ∧ yX6_enlist.cls ≠ "java/lang/invoke/VarHandle" ∧ (parseMethodDescriptor yX6_enlist.desc).map (fun d => d.parameters.length) = some 1 := ⟨by decide +kernel, by decide +kernel, by decide +kernel⟩
def w_X6_enlist (s0 : Nat) (b0 : Nat) (c0 : Nat) (a1 : Int32) (Q : Mem → Prop) (M : Mem) : Prop := (w_X6_placeOf s0 b0 c0 a1  (fun (r2 : Int32) (M2 : Mem) => (if r2 = (-2000000 : Int32) then (if (4 : Int32) ≤ (M2.1 (7, s0, b0, c0) 3) then (Q (mu (mu M2 (7, s0, b0, c0) 4 (1 : Int32)) (7, s0, b0, c0) 3 (0 : Int32))) else (vp_in (M2.1 (7, s0, b0, c0) 3) 4 ∧ (vp_in ((mu M2 (8, s0, b0, c0) ((M2.1 (7, s0, b0, c0) 3).toNatClampNeg) a1).1 (7, s0, b0, c0) 3) 4 ∧ (Q (mu (mu (mu M2 (8, s0, b0, c0) ((M2.1 (7, s0, b0, c0) 3).toNatClampNeg) a1) (9, s0, b0, c0) (((mu M2 (8, s0, b0, c0) ((M2.1 (7, s0, b0, c0) 3).toNatClampNeg) a1).1 (7, s0, b0, c0) 3).toNatClampNeg) (1 : Int32)) (7, s0, b0, c0) 3 (((mu (mu M2 (8, s0, b0, c0) ((M2.1 (7, s0, b0, c0) 3).toNatClampNeg) a1) (9, s0, b0, c0) (((mu M2 (8, s0, b0, c0) ((M2.1 (7, s0, b0, c0) 3).toNatClampNeg) a1).1 (7, s0, b0, c0) 3).toNatClampNeg) (1 : Int32)).1 (7, s0, b0, c0) 3) + (1 : Int32))))))) else (vp_in r2 4 ∧ (vp_in r2 4 ∧ (Q (mu M2 (9, s0, b0, c0) (r2.toNatClampNeg) ((M2.1 (9, s0, b0, c0) r2.toNatClampNeg) + (1 : Int32)))))))) M)
section
variable {p : Program} {l : Launch} {e : Env} {s : State} {m : MethodId} {args : Array Value} {below : List Frame} {meth : Method} {c : Code} 
variable  {G : GG} {I : ix → Prop} {ad : ix → Nat}
set_option maxHeartbeats 4000000 in
set_option maxRecDepth 100000 in
theorem j_X6_enlist_0 {s0 : Nat} {b0 : Nat} {c0 : Nat} {a1 : Int32} (C : cx p s m args meth c cX6_enlist 3 none RX6 G) (hC : clo I) (h0 : I (7, s0, b0, c0)) {Q : Mem → Prop} : ∀ (M : Mem) (H : Heap) (locs : List Loc) (ls : Array Slot), w_X6_enlist s0 b0 c0 a1 Q M → wd G I ad M H → va_S (fA I ad) s.heap H locs → lv_has ls 3 [(0, .ref (ad (7, s0, b0, c0))), (1, .int a1)] → W p l e rm_X6_enlist s m args below meth c H locs 0 0 (MQ below (qV G I ad Q) args s 0 0 (fA I ad)) (F0 m 0 ls []) := by
  have hx := C.1
  have hb := C.2.1
  have hown := C.2.2.2.1
  have hts := C.2.2.2.2.1
  intro M H locs ls hw hP hS hl
  unfold w_X6_enlist at hw
  refine lv_aload_n (pc := 0) hx hb dX6_enlist_0 rfl (lv_at hl 0 rfl) ?_
  refine lv_iload_n (pc := 1) hx hb dX6_enlist_1 rfl (lv_at hl 1 rfl) ?_
  refine r_cVI (pc := 2) (rest := []) (As := [.int a1]) C hl.1 hP hS (k_X6_placeOf l G hC h0 hw) h0 rfl rfl mw_350 mw_352 mw_2 mw_59 mw_353 ⟨rfl, rfl⟩ hd_X6_placeOf rfl rfl ⟨Nat.le_of_ble_eq_true rfl, Nat.le_of_ble_eq_true rfl⟩ (Nat.le_of_ble_eq_true rfl) ⟨Nat.zero_le _, Nat.zero_le _⟩ dX6_enlist_2 (fun r2 M2 H locs hw hP hS => ?_)
  refine lv_istore_n (pc := 5) (lv' := [(2, .int r2), (0, .ref (ad (7, s0, b0, c0))), (1, .int a1)]) hx hb dX6_enlist_5 rfl hl (by decide) rfl (fun ls hl => ?_)
  refine lv_iload_n (pc := 6) hx hb dX6_enlist_6 rfl (lv_at hl 0 rfl) ?_
  refine lv_ldc (pc := 7) (own := RX6) (v := (-2000000 : Int32)) hx hb hown (hts _ mw_102) dX6_enlist_7 ?_
  refine lv_icmp_eq (pc := 9) (tgt := 25) hx hb dX6_enlist_9 (by decide) (fun h => ?_) (fun h => ?_)
  · replace hw := if_t h hw
    refine lv_aload_n (pc := 25) hx hb dX6_enlist_25 rfl (lv_at hl 1 rfl) ?_
    refine gf_112 (pc := 26) C hP h0 dX6_enlist_26 ?_
    refine lv_iconst (pc := 29) (v := (4 : Int32)) hx hb dX6_enlist_29 (by decide) ?_
    refine lv_icmp_ge (pc := 30) (tgt := 66) hx hb dX6_enlist_30 (by decide) (fun h => ?_) (fun h => ?_)
    · replace hw := if_t h hw
      refine lv_aload_n (pc := 66) hx hb dX6_enlist_66 rfl (lv_at hl 1 rfl) ?_
      refine lv_iconst (pc := 67) (v := (1 : Int32)) hx hb dX6_enlist_67 (by decide) ?_
      refine pf_114 (pc := 68) (by decide) C hP hS h0 dX6_enlist_68 (fun H locs hP hS => ?_)
      refine lv_aload_n (pc := 71) hx hb dX6_enlist_71 rfl (lv_at hl 1 rfl) ?_
      refine lv_iconst (pc := 72) (v := (0 : Int32)) hx hb dX6_enlist_72 (by decide) ?_
      refine pf_112 (pc := 73) C hP hS h0 dX6_enlist_73 (fun H locs hP hS => ?_)
      exact r_vret (pc := 76) C hP hS hw dX6_enlist_76
    · replace hw := if_f h hw
      refine lv_aload_n (pc := 33) hx hb dX6_enlist_33 rfl (lv_at hl 1 rfl) ?_
      refine gf_116 (pc := 34) C hP h0 dX6_enlist_34 ?_
      refine lv_aload_n (pc := 37) hx hb dX6_enlist_37 rfl (lv_at hl 1 rfl) ?_
      refine gf_112 (pc := 38) C hP h0 dX6_enlist_38 ?_
      refine lv_iload_n (pc := 41) hx hb dX6_enlist_41 rfl (lv_at hl 2 rfl) ?_
      refine r_iastK (pc := 42) (n := 4) (k := (M2.1 (7, s0, b0, c0) 3).toNatClampNeg) C hP hS (cl_7_5 hC h0) (fun _ _ _ _ => rfl) hw.1 rfl dX6_enlist_42 (fun H locs hP hS => ?_)
      replace hw := hw.2
      refine lv_aload_n (pc := 43) hx hb dX6_enlist_43 rfl (lv_at hl 1 rfl) ?_
      refine gf_118 (pc := 44) C hP h0 dX6_enlist_44 ?_
      refine lv_aload_n (pc := 47) hx hb dX6_enlist_47 rfl (lv_at hl 1 rfl) ?_
      refine gf_112 (pc := 48) C hP h0 dX6_enlist_48 ?_
      refine lv_iconst (pc := 51) (v := (1 : Int32)) hx hb dX6_enlist_51 (by decide) ?_
      refine r_iastK (pc := 52) (n := 4) (k := ((mu M2 (8, s0, b0, c0) ((M2.1 (7, s0, b0, c0) 3).toNatClampNeg) a1).1 (7, s0, b0, c0) 3).toNatClampNeg) C hP hS (cl_7_6 hC h0) (fun _ _ _ _ => rfl) hw.1 rfl dX6_enlist_52 (fun H locs hP hS => ?_)
      replace hw := hw.2
      refine lv_aload_n (pc := 53) hx hb dX6_enlist_53 rfl (lv_at hl 1 rfl) ?_
      refine lv_dup (pc := 54) hx hb dX6_enlist_54 rfl ?_
      refine gf_112 (pc := 55) C hP h0 dX6_enlist_55 ?_
      refine lv_iconst (pc := 58) (v := (1 : Int32)) hx hb dX6_enlist_58 (by decide) ?_
      refine lv_iadd (pc := 59) hx hb dX6_enlist_59 ?_
      refine pf_112 (pc := 60) C hP hS h0 dX6_enlist_60 (fun H locs hP hS => ?_)
      refine lv_goto (pc := 63) (tgt := 76) hx hb dX6_enlist_63 (by decide) ?_
      exact r_vret (pc := 76) C hP hS hw dX6_enlist_76
  · replace hw := if_f h hw
    refine lv_aload_n (pc := 12) hx hb dX6_enlist_12 rfl (lv_at hl 1 rfl) ?_
    refine gf_118 (pc := 13) C hP h0 dX6_enlist_13 ?_
    refine lv_iload_n (pc := 16) hx hb dX6_enlist_16 rfl (lv_at hl 0 rfl) ?_
    refine lv_dup2_11 (pc := 17) hx hb dX6_enlist_17 rfl rfl ?_
    refine r_ialdK (pc := 18) (n := 4) (k := r2.toNatClampNeg) C hP (cl_7_6 hC h0) (fun _ _ _ _ => rfl) hw.1 rfl dX6_enlist_18 ?_
    replace hw := hw.2
    refine lv_iconst (pc := 19) (v := (1 : Int32)) hx hb dX6_enlist_19 (by decide) ?_
    refine lv_iadd (pc := 20) hx hb dX6_enlist_20 ?_
    refine r_iastK (pc := 21) (n := 4) (k := r2.toNatClampNeg) C hP hS (cl_7_6 hC h0) (fun _ _ _ _ => rfl) hw.1 rfl dX6_enlist_21 (fun H locs hP hS => ?_)
    replace hw := hw.2
    refine lv_goto (pc := 22) (tgt := 76) hx hb dX6_enlist_22 (by decide) ?_
    exact r_vret (pc := 76) C hP hS hw dX6_enlist_76
end
theorem k_X6_enlist (l : Launch) (G : GG) {I : ix → Prop} {ad : ix → Nat} (hC : clo I) {s0 : Nat} {b0 : Nat} {c0 : Nat} {a1 : Int32} (h0 : I (7, s0, b0, c0)) {Q : Mem → Prop} {M : Mem} (hw : w_X6_enlist s0 b0 c0 a1 Q M) : Met l yX6_enlist (wW yX6_enlist cX6_enlist 3 none) rm_X6_enlist (va_Pc [.ref (ad (7, s0, b0, c0)), .int a1] (fun U => wd G I ad M U.heap ∧ wK G U)) (qV G I ad Q) 0 0 (fA I ad) := met_of (by decide +kernel) (Nat.le_of_ble_eq_true rfl) (fun p e s m below meth c C hP hS ls hl => j_X6_enlist_0 C hC h0 _ _ _ _ hw hP hS hl)
abbrev rm_X6_come : Room := { frames := 2, cells := 0, slots := 0, locals := 44 }
theorem hd_X6_come : yX6_come.cls ≠ "java/lang/invoke/MethodHandle" ∧ yX6_come.cls ≠ "java/lang/invoke/VarHandle" ∧ (parseMethodDescriptor yX6_come.desc).map (fun d => d.parameters.length) = some 1 := ⟨by decide +kernel, by decide +kernel, by decide +kernel⟩
def w_X6_come (s0 : Nat) (b0 : Nat) (c0 : Nat) (a1 : Int32) (Q : Mem → Prop) (M : Mem) : Prop := (if a1 = (1000 : Int32) then (Q (mu M (7, s0, b0, c0) 2 ((M.1 (7, s0, b0, c0) 2) + (1 : Int32)))) else (if (M.1 (7, s0, b0, c0) 0) = (-2000000 : Int32) then (if ((mu M (7, s0, b0, c0) 0 a1).1 (7, s0, b0, c0) 1) = (-2000000 : Int32) then (if ((mu (mu M (7, s0, b0, c0) 0 a1) (7, s0, b0, c0) 1 a1).1 (7, s0, b0, c0) 4) = 0 then (w_X6_enlist s0 b0 c0 a1  (fun (M77 : Mem) => (Q M77)) (mu (mu M (7, s0, b0, c0) 0 a1) (7, s0, b0, c0) 1 a1)) else (Q (mu (mu M (7, s0, b0, c0) 0 a1) (7, s0, b0, c0) 1 a1))) else (if ((mu (mu M (7, s0, b0, c0) 0 a1) (7, s0, b0, c0) 1 (if ((mu M (7, s0, b0, c0) 0 a1).1 (7, s0, b0, c0) 1) < a1 then a1 else ((mu M (7, s0, b0, c0) 0 a1).1 (7, s0, b0, c0) 1))).1 (7, s0, b0, c0) 4) = 0 then (w_X6_enlist s0 b0 c0 a1  (fun (M77 : Mem) => (Q M77)) (mu (mu M (7, s0, b0, c0) 0 a1) (7, s0, b0, c0) 1 (if ((mu M (7, s0, b0, c0) 0 a1).1 (7, s0, b0, c0) 1) < a1 then a1 else ((mu M (7, s0, b0, c0) 0 a1).1 (7, s0, b0, c0) 1)))) else (Q (mu (mu M (7, s0, b0, c0) 0 a1) (7, s0, b0, c0) 1 (if ((mu M (7, s0, b0, c0) 0 a1).1 (7, s0, b0, c0) 1) < a1 then a1 else ((mu M (7, s0, b0, c0) 0 a1).1 (7, s0, b0, c0) 1)))))) else (if ((mu M (7, s0, b0, c0) 0 (if a1 < (M.1 (7, s0, b0, c0) 0) then a1 else (M.1 (7, s0, b0, c0) 0))).1 (7, s0, b0, c0) 1) = (-2000000 : Int32) then (if ((mu (mu M (7, s0, b0, c0) 0 (if a1 < (M.1 (7, s0, b0, c0) 0) then a1 else (M.1 (7, s0, b0, c0) 0))) (7, s0, b0, c0) 1 a1).1 (7, s0, b0, c0) 4) = 0 then (w_X6_enlist s0 b0 c0 a1  (fun (M77 : Mem) => (Q M77)) (mu (mu M (7, s0, b0, c0) 0 (if a1 < (M.1 (7, s0, b0, c0) 0) then a1 else (M.1 (7, s0, b0, c0) 0))) (7, s0, b0, c0) 1 a1)) else (Q (mu (mu M (7, s0, b0, c0) 0 (if a1 < (M.1 (7, s0, b0, c0) 0) then a1 else (M.1 (7, s0, b0, c0) 0))) (7, s0, b0, c0) 1 a1))) else (if ((mu (mu M (7, s0, b0, c0) 0 (if a1 < (M.1 (7, s0, b0, c0) 0) then a1 else (M.1 (7, s0, b0, c0) 0))) (7, s0, b0, c0) 1 (if ((mu M (7, s0, b0, c0) 0 (if a1 < (M.1 (7, s0, b0, c0) 0) then a1 else (M.1 (7, s0, b0, c0) 0))).1 (7, s0, b0, c0) 1) < a1 then a1 else ((mu M (7, s0, b0, c0) 0 (if a1 < (M.1 (7, s0, b0, c0) 0) then a1 else (M.1 (7, s0, b0, c0) 0))).1 (7, s0, b0, c0) 1))).1 (7, s0, b0, c0) 4) = 0 then (w_X6_enlist s0 b0 c0 a1  (fun (M77 : Mem) => (Q M77)) (mu (mu M (7, s0, b0, c0) 0 (if a1 < (M.1 (7, s0, b0, c0) 0) then a1 else (M.1 (7, s0, b0, c0) 0))) (7, s0, b0, c0) 1 (if ((mu M (7, s0, b0, c0) 0 (if a1 < (M.1 (7, s0, b0, c0) 0) then a1 else (M.1 (7, s0, b0, c0) 0))).1 (7, s0, b0, c0) 1) < a1 then a1 else ((mu M (7, s0, b0, c0) 0 (if a1 < (M.1 (7, s0, b0, c0) 0) then a1 else (M.1 (7, s0, b0, c0) 0))).1 (7, s0, b0, c0) 1)))) else (Q (mu (mu M (7, s0, b0, c0) 0 (if a1 < (M.1 (7, s0, b0, c0) 0) then a1 else (M.1 (7, s0, b0, c0) 0))) (7, s0, b0, c0) 1 (if ((mu M (7, s0, b0, c0) 0 (if a1 < (M.1 (7, s0, b0, c0) 0) then a1 else (M.1 (7, s0, b0, c0) 0))).1 (7, s0, b0, c0) 1) < a1 then a1 else ((mu M (7, s0, b0, c0) 0 (if a1 < (M.1 (7, s0, b0, c0) 0) then a1 else (M.1 (7, s0, b0, c0) 0))).1 (7, s0, b0, c0) 1))))))))
section
variable {p : Program} {l : Launch} {e : Env} {s : State} {m : MethodId} {args : Array Value} {below : List Frame} {meth : Method} {c : Code} 
variable  {G : GG} {I : ix → Prop} {ad : ix → Nat}
set_option maxHeartbeats 4000000 in
set_option maxRecDepth 100000 in
theorem j_X6_come_0 {s0 : Nat} {b0 : Nat} {c0 : Nat} {a1 : Int32} (C : cx p s m args meth c cX6_come 2 none RX6 G) (hC : clo I) (h0 : I (7, s0, b0, c0)) {Q : Mem → Prop} : ∀ (M : Mem) (H : Heap) (locs : List Loc) (ls : Array Slot), w_X6_come s0 b0 c0 a1 Q M → wd G I ad M H → va_S (fA I ad) s.heap H locs → lv_has ls 2 [(0, .ref (ad (7, s0, b0, c0))), (1, .int a1)] → W p l e rm_X6_come s m args below meth c H locs 0 0 (MQ below (qV G I ad Q) args s 0 0 (fA I ad)) (F0 m 0 ls []) := by
  have hx := C.1
  have hb := C.2.1
  have hown := C.2.2.2.1
  have hts := C.2.2.2.2.1
  intro M H locs ls hw hP hS hl
  unfold w_X6_come at hw
  refine lv_iload_n (pc := 0) hx hb dX6_come_0 rfl (lv_at hl 1 rfl) ?_
  refine lv_sipush (pc := 1) (v := (1000 : Int32)) hx hb dX6_come_1 (by decide) ?_
  refine lv_icmp_ne (pc := 4) (tgt := 18) hx hb dX6_come_4 (by decide) (fun h => ?_) (fun h => ?_)
  · replace hw := if_f h hw
    refine lv_aload_n (pc := 18) hx hb dX6_come_18 rfl (lv_at hl 0 rfl) ?_
    refine lv_aload_n (pc := 19) hx hb dX6_come_19 rfl (lv_at hl 0 rfl) ?_
    refine gf_103 (pc := 20) C hP h0 dX6_come_20 ?_
    refine lv_ldc (pc := 23) (own := RX6) (v := (-2000000 : Int32)) hx hb hown (hts _ mw_102) dX6_come_23 ?_
    refine lv_icmp_ne (pc := 25) (tgt := 32) hx hb dX6_come_25 (by decide) (fun h => ?_) (fun h => ?_)
    · replace hw := if_f h hw
      refine lv_aload_n (pc := 32) hx hb dX6_come_32 rfl (lv_at hl 0 rfl) ?_
      refine gf_103 (pc := 33) C hP h0 dX6_come_33 ?_
      refine lv_iload_n (pc := 36) hx hb dX6_come_36 rfl (lv_at hl 1 rfl) ?_
      refine r_min (pc := 37) (rest := [.ref (ad (7, s0, b0, c0))]) C hl.1 mw_340 mw_341 mw_66 mw_342 (Nat.le_of_ble_eq_true rfl) (Nat.le_of_ble_eq_true rfl) (Nat.zero_le _) (Nat.zero_le _) dX6_come_37 ?_
      refine pf_103 (pc := 40) C hP hS h0 dX6_come_40 (fun H locs hP hS => ?_)
      refine lv_aload_n (pc := 43) hx hb dX6_come_43 rfl (lv_at hl 0 rfl) ?_
      refine lv_aload_n (pc := 44) hx hb dX6_come_44 rfl (lv_at hl 0 rfl) ?_
      refine gf_106 (pc := 45) C hP h0 dX6_come_45 ?_
      refine lv_ldc (pc := 48) (own := RX6) (v := (-2000000 : Int32)) hx hb hown (hts _ mw_102) dX6_come_48 ?_
      refine lv_icmp_ne (pc := 50) (tgt := 57) hx hb dX6_come_50 (by decide) (fun h => ?_) (fun h => ?_)
      · replace hw := if_f h hw
        refine lv_aload_n (pc := 57) hx hb dX6_come_57 rfl (lv_at hl 0 rfl) ?_
        refine gf_106 (pc := 58) C hP h0 dX6_come_58 ?_
        refine lv_iload_n (pc := 61) hx hb dX6_come_61 rfl (lv_at hl 1 rfl) ?_
        refine r_max (pc := 62) (rest := [.ref (ad (7, s0, b0, c0))]) C hl.1 mw_343 mw_344 mw_66 mw_345 (Nat.le_of_ble_eq_true rfl) (Nat.le_of_ble_eq_true rfl) (Nat.zero_le _) (Nat.zero_le _) dX6_come_62 ?_
        refine pf_106 (pc := 65) C hP hS h0 dX6_come_65 (fun H locs hP hS => ?_)
        refine lv_aload_n (pc := 68) hx hb dX6_come_68 rfl (lv_at hl 0 rfl) ?_
        refine gf_114 (pc := 69) C hP h0 dX6_come_69 ?_
        refine lv_if_ne (pc := 72) (tgt := 80) hx hb dX6_come_72 (by decide) (fun h => ?_) (fun h => ?_)
        · replace hw := if_f h hw
          exact r_vret (pc := 80) C hP hS hw dX6_come_80
        · replace hw := if_t h hw
          refine lv_aload_n (pc := 75) hx hb dX6_come_75 rfl (lv_at hl 0 rfl) ?_
          refine lv_iload_n (pc := 76) hx hb dX6_come_76 rfl (lv_at hl 1 rfl) ?_
          refine r_cVV (pc := 77) (rest := []) (As := [.int a1]) C hl.1 hP hS (k_X6_enlist l G hC h0 hw) h0 rfl rfl mw_346 mw_348 mw_1 mw_59 mw_349 ⟨rfl, rfl⟩ hd_X6_enlist rfl rfl ⟨Nat.le_of_ble_eq_true rfl, Nat.le_of_ble_eq_true rfl⟩ (Nat.le_of_ble_eq_true rfl) ⟨Nat.zero_le _, Nat.zero_le _⟩ dX6_come_77 (fun M77 H locs hw hP hS => ?_)
          exact r_vret (pc := 80) C hP hS hw dX6_come_80
      · replace hw := if_t h hw
        refine lv_iload_n (pc := 53) hx hb dX6_come_53 rfl (lv_at hl 1 rfl) ?_
        refine lv_goto (pc := 54) (tgt := 65) hx hb dX6_come_54 (by decide) ?_
        refine pf_106 (pc := 65) C hP hS h0 dX6_come_65 (fun H locs hP hS => ?_)
        refine lv_aload_n (pc := 68) hx hb dX6_come_68 rfl (lv_at hl 0 rfl) ?_
        refine gf_114 (pc := 69) C hP h0 dX6_come_69 ?_
        refine lv_if_ne (pc := 72) (tgt := 80) hx hb dX6_come_72 (by decide) (fun h => ?_) (fun h => ?_)
        · replace hw := if_f h hw
          exact r_vret (pc := 80) C hP hS hw dX6_come_80
        · replace hw := if_t h hw
          refine lv_aload_n (pc := 75) hx hb dX6_come_75 rfl (lv_at hl 0 rfl) ?_
          refine lv_iload_n (pc := 76) hx hb dX6_come_76 rfl (lv_at hl 1 rfl) ?_
          refine r_cVV (pc := 77) (rest := []) (As := [.int a1]) C hl.1 hP hS (k_X6_enlist l G hC h0 hw) h0 rfl rfl mw_346 mw_348 mw_1 mw_59 mw_349 ⟨rfl, rfl⟩ hd_X6_enlist rfl rfl ⟨Nat.le_of_ble_eq_true rfl, Nat.le_of_ble_eq_true rfl⟩ (Nat.le_of_ble_eq_true rfl) ⟨Nat.zero_le _, Nat.zero_le _⟩ dX6_come_77 (fun M77 H locs hw hP hS => ?_)
          exact r_vret (pc := 80) C hP hS hw dX6_come_80
    · replace hw := if_t h hw
      refine lv_iload_n (pc := 28) hx hb dX6_come_28 rfl (lv_at hl 1 rfl) ?_
      refine lv_goto (pc := 29) (tgt := 40) hx hb dX6_come_29 (by decide) ?_
      refine pf_103 (pc := 40) C hP hS h0 dX6_come_40 (fun H locs hP hS => ?_)
      refine lv_aload_n (pc := 43) hx hb dX6_come_43 rfl (lv_at hl 0 rfl) ?_
      refine lv_aload_n (pc := 44) hx hb dX6_come_44 rfl (lv_at hl 0 rfl) ?_
      refine gf_106 (pc := 45) C hP h0 dX6_come_45 ?_
      refine lv_ldc (pc := 48) (own := RX6) (v := (-2000000 : Int32)) hx hb hown (hts _ mw_102) dX6_come_48 ?_
      refine lv_icmp_ne (pc := 50) (tgt := 57) hx hb dX6_come_50 (by decide) (fun h => ?_) (fun h => ?_)
      · replace hw := if_f h hw
        refine lv_aload_n (pc := 57) hx hb dX6_come_57 rfl (lv_at hl 0 rfl) ?_
        refine gf_106 (pc := 58) C hP h0 dX6_come_58 ?_
        refine lv_iload_n (pc := 61) hx hb dX6_come_61 rfl (lv_at hl 1 rfl) ?_
        refine r_max (pc := 62) (rest := [.ref (ad (7, s0, b0, c0))]) C hl.1 mw_343 mw_344 mw_66 mw_345 (Nat.le_of_ble_eq_true rfl) (Nat.le_of_ble_eq_true rfl) (Nat.zero_le _) (Nat.zero_le _) dX6_come_62 ?_
        refine pf_106 (pc := 65) C hP hS h0 dX6_come_65 (fun H locs hP hS => ?_)
        refine lv_aload_n (pc := 68) hx hb dX6_come_68 rfl (lv_at hl 0 rfl) ?_
        refine gf_114 (pc := 69) C hP h0 dX6_come_69 ?_
        refine lv_if_ne (pc := 72) (tgt := 80) hx hb dX6_come_72 (by decide) (fun h => ?_) (fun h => ?_)
        · replace hw := if_f h hw
          exact r_vret (pc := 80) C hP hS hw dX6_come_80
        · replace hw := if_t h hw
          refine lv_aload_n (pc := 75) hx hb dX6_come_75 rfl (lv_at hl 0 rfl) ?_
          refine lv_iload_n (pc := 76) hx hb dX6_come_76 rfl (lv_at hl 1 rfl) ?_
          refine r_cVV (pc := 77) (rest := []) (As := [.int a1]) C hl.1 hP hS (k_X6_enlist l G hC h0 hw) h0 rfl rfl mw_346 mw_348 mw_1 mw_59 mw_349 ⟨rfl, rfl⟩ hd_X6_enlist rfl rfl ⟨Nat.le_of_ble_eq_true rfl, Nat.le_of_ble_eq_true rfl⟩ (Nat.le_of_ble_eq_true rfl) ⟨Nat.zero_le _, Nat.zero_le _⟩ dX6_come_77 (fun M77 H locs hw hP hS => ?_)
          exact r_vret (pc := 80) C hP hS hw dX6_come_80
      · replace hw := if_t h hw
        refine lv_iload_n (pc := 53) hx hb dX6_come_53 rfl (lv_at hl 1 rfl) ?_
        refine lv_goto (pc := 54) (tgt := 65) hx hb dX6_come_54 (by decide) ?_
        refine pf_106 (pc := 65) C hP hS h0 dX6_come_65 (fun H locs hP hS => ?_)
        refine lv_aload_n (pc := 68) hx hb dX6_come_68 rfl (lv_at hl 0 rfl) ?_
        refine gf_114 (pc := 69) C hP h0 dX6_come_69 ?_
        refine lv_if_ne (pc := 72) (tgt := 80) hx hb dX6_come_72 (by decide) (fun h => ?_) (fun h => ?_)
        · replace hw := if_f h hw
          exact r_vret (pc := 80) C hP hS hw dX6_come_80
        · replace hw := if_t h hw
          refine lv_aload_n (pc := 75) hx hb dX6_come_75 rfl (lv_at hl 0 rfl) ?_
          refine lv_iload_n (pc := 76) hx hb dX6_come_76 rfl (lv_at hl 1 rfl) ?_
          refine r_cVV (pc := 77) (rest := []) (As := [.int a1]) C hl.1 hP hS (k_X6_enlist l G hC h0 hw) h0 rfl rfl mw_346 mw_348 mw_1 mw_59 mw_349 ⟨rfl, rfl⟩ hd_X6_enlist rfl rfl ⟨Nat.le_of_ble_eq_true rfl, Nat.le_of_ble_eq_true rfl⟩ (Nat.le_of_ble_eq_true rfl) ⟨Nat.zero_le _, Nat.zero_le _⟩ dX6_come_77 (fun M77 H locs hw hP hS => ?_)
          exact r_vret (pc := 80) C hP hS hw dX6_come_80
  · replace hw := if_t h hw
    refine lv_aload_n (pc := 7) hx hb dX6_come_7 rfl (lv_at hl 0 rfl) ?_
    refine lv_dup (pc := 8) hx hb dX6_come_8 rfl ?_
    refine gf_109 (pc := 9) C hP h0 dX6_come_9 ?_
    refine lv_iconst (pc := 12) (v := (1 : Int32)) hx hb dX6_come_12 (by decide) ?_
    refine lv_iadd (pc := 13) hx hb dX6_come_13 ?_
    refine pf_109 (pc := 14) C hP hS h0 dX6_come_14 (fun H locs hP hS => ?_)
    exact r_vret (pc := 17) C hP hS hw dX6_come_17
end
theorem k_X6_come (l : Launch) (G : GG) {I : ix → Prop} {ad : ix → Nat} (hC : clo I) {s0 : Nat} {b0 : Nat} {c0 : Nat} {a1 : Int32} (h0 : I (7, s0, b0, c0)) {Q : Mem → Prop} {M : Mem} (hw : w_X6_come s0 b0 c0 a1 Q M) : Met l yX6_come (wW yX6_come cX6_come 2 none) rm_X6_come (va_Pc [.ref (ad (7, s0, b0, c0)), .int a1] (fun U => wd G I ad M U.heap ∧ wK G U)) (qV G I ad Q) 0 0 (fA I ad) := met_of (by decide +kernel) (Nat.le_of_ble_eq_true rfl) (fun p e s m below meth c C hP hS ls hl => j_X6_come_0 C hC h0 _ _ _ _ hw hP hS hl)
abbrev rm_X6_leave : Room := { frames := 1, cells := 0, slots := 0, locals := 22 }
theorem hd_X6_leave : yX6_leave.cls ≠ "java/lang/invoke/MethodHandle" ∧ yX6_leave.cls ≠ "java/lang/invoke/VarHandle" ∧ (parseMethodDescriptor yX6_leave.desc).map (fun d => d.parameters.length) = some 1 := ⟨by decide +kernel, by decide +kernel, by decide +kernel⟩
def w_X6_leave (s0 : Nat) (b0 : Nat) (c0 : Nat) (a1 : Int32) (Q : Mem → Prop) (M : Mem) : Prop := (if a1 = (1000 : Int32) then (Q (mu M (7, s0, b0, c0) 2 ((M.1 (7, s0, b0, c0) 2) - (1 : Int32)))) else (w_X6_placeOf s0 b0 c0 a1  (fun (r20 : Int32) (M20 : Mem) => (if r20 = (-2000000 : Int32) then (Q M20) else (vp_in r20 4 ∧ (vp_in r20 4 ∧ (Q (mu M20 (9, s0, b0, c0) (r20.toNatClampNeg) ((M20.1 (9, s0, b0, c0) r20.toNatClampNeg) - (1 : Int32)))))))) M))
section
variable {p : Program} {l : Launch} {e : Env} {s : State} {m : MethodId} {args : Array Value} {below : List Frame} {meth : Method} {c : Code} 
variable  {G : GG} {I : ix → Prop} {ad : ix → Nat}
set_option maxHeartbeats 4000000 in
set_option maxRecDepth 100000 in
theorem j_X6_leave_0 {s0 : Nat} {b0 : Nat} {c0 : Nat} {a1 : Int32} (C : cx p s m args meth c cX6_leave 3 none RX6 G) (hC : clo I) (h0 : I (7, s0, b0, c0)) {Q : Mem → Prop} : ∀ (M : Mem) (H : Heap) (locs : List Loc) (ls : Array Slot), w_X6_leave s0 b0 c0 a1 Q M → wd G I ad M H → va_S (fA I ad) s.heap H locs → lv_has ls 3 [(0, .ref (ad (7, s0, b0, c0))), (1, .int a1)] → W p l e rm_X6_leave s m args below meth c H locs 0 0 (MQ below (qV G I ad Q) args s 0 0 (fA I ad)) (F0 m 0 ls []) := by
  have hx := C.1
  have hb := C.2.1
  have hown := C.2.2.2.1
  have hts := C.2.2.2.2.1
  intro M H locs ls hw hP hS hl
  unfold w_X6_leave at hw
  refine lv_iload_n (pc := 0) hx hb dX6_leave_0 rfl (lv_at hl 1 rfl) ?_
  refine lv_sipush (pc := 1) (v := (1000 : Int32)) hx hb dX6_leave_1 (by decide) ?_
  refine lv_icmp_ne (pc := 4) (tgt := 18) hx hb dX6_leave_4 (by decide) (fun h => ?_) (fun h => ?_)
  · replace hw := if_f h hw
    refine lv_aload_n (pc := 18) hx hb dX6_leave_18 rfl (lv_at hl 0 rfl) ?_
    refine lv_iload_n (pc := 19) hx hb dX6_leave_19 rfl (lv_at hl 1 rfl) ?_
    refine r_cVI (pc := 20) (rest := []) (As := [.int a1]) C hl.1 hP hS (k_X6_placeOf l G hC h0 hw) h0 rfl rfl mw_350 mw_352 mw_2 mw_59 mw_353 ⟨rfl, rfl⟩ hd_X6_placeOf rfl rfl ⟨Nat.le_of_ble_eq_true rfl, Nat.le_of_ble_eq_true rfl⟩ (Nat.le_of_ble_eq_true rfl) ⟨Nat.zero_le _, Nat.zero_le _⟩ dX6_leave_20 (fun r20 M20 H locs hw hP hS => ?_)
    refine lv_istore_n (pc := 23) (lv' := [(2, .int r20), (0, .ref (ad (7, s0, b0, c0))), (1, .int a1)]) hx hb dX6_leave_23 rfl hl (by decide) rfl (fun ls hl => ?_)
    refine lv_iload_n (pc := 24) hx hb dX6_leave_24 rfl (lv_at hl 0 rfl) ?_
    refine lv_ldc (pc := 25) (own := RX6) (v := (-2000000 : Int32)) hx hb hown (hts _ mw_102) dX6_leave_25 ?_
    refine lv_icmp_eq (pc := 27) (tgt := 40) hx hb dX6_leave_27 (by decide) (fun h => ?_) (fun h => ?_)
    · replace hw := if_t h hw
      exact r_vret (pc := 40) C hP hS hw dX6_leave_40
    · replace hw := if_f h hw
      refine lv_aload_n (pc := 30) hx hb dX6_leave_30 rfl (lv_at hl 1 rfl) ?_
      refine gf_118 (pc := 31) C hP h0 dX6_leave_31 ?_
      refine lv_iload_n (pc := 34) hx hb dX6_leave_34 rfl (lv_at hl 0 rfl) ?_
      refine lv_dup2_11 (pc := 35) hx hb dX6_leave_35 rfl rfl ?_
      refine r_ialdK (pc := 36) (n := 4) (k := r20.toNatClampNeg) C hP (cl_7_6 hC h0) (fun _ _ _ _ => rfl) hw.1 rfl dX6_leave_36 ?_
      replace hw := hw.2
      refine lv_iconst (pc := 37) (v := (1 : Int32)) hx hb dX6_leave_37 (by decide) ?_
      refine lv_isub (pc := 38) hx hb dX6_leave_38 ?_
      refine r_iastK (pc := 39) (n := 4) (k := r20.toNatClampNeg) C hP hS (cl_7_6 hC h0) (fun _ _ _ _ => rfl) hw.1 rfl dX6_leave_39 (fun H locs hP hS => ?_)
      replace hw := hw.2
      exact r_vret (pc := 40) C hP hS hw dX6_leave_40
  · replace hw := if_t h hw
    refine lv_aload_n (pc := 7) hx hb dX6_leave_7 rfl (lv_at hl 0 rfl) ?_
    refine lv_dup (pc := 8) hx hb dX6_leave_8 rfl ?_
    refine gf_109 (pc := 9) C hP h0 dX6_leave_9 ?_
    refine lv_iconst (pc := 12) (v := (1 : Int32)) hx hb dX6_leave_12 (by decide) ?_
    refine lv_isub (pc := 13) hx hb dX6_leave_13 ?_
    refine pf_109 (pc := 14) C hP hS h0 dX6_leave_14 (fun H locs hP hS => ?_)
    exact r_vret (pc := 17) C hP hS hw dX6_leave_17
end
theorem k_X6_leave (l : Launch) (G : GG) {I : ix → Prop} {ad : ix → Nat} (hC : clo I) {s0 : Nat} {b0 : Nat} {c0 : Nat} {a1 : Int32} (h0 : I (7, s0, b0, c0)) {Q : Mem → Prop} {M : Mem} (hw : w_X6_leave s0 b0 c0 a1 Q M) : Met l yX6_leave (wW yX6_leave cX6_leave 3 none) rm_X6_leave (va_Pc [.ref (ad (7, s0, b0, c0)), .int a1] (fun U => wd G I ad M U.heap ∧ wK G U)) (qV G I ad Q) 0 0 (fA I ad) := met_of (by decide +kernel) (Nat.le_of_ble_eq_true rfl) (fun p e s m below meth c C hP hS ls hl => j_X6_leave_0 C hC h0 _ _ _ _ hw hP hS hl)
abbrev rm_X6_differsFrom : Room := { frames := 1, cells := 0, slots := 0, locals := 22 }
theorem hd_X6_differsFrom : yX6_differsFrom.cls ≠ "java/lang/invoke/MethodHandle" ∧ yX6_differsFrom.cls ≠ "java/lang/invoke/VarHandle" ∧ (parseMethodDescriptor yX6_differsFrom.desc).map (fun d => d.parameters.length) = some 1 := ⟨by decide +kernel, by decide +kernel, by decide +kernel⟩
def w_X6_differsFrom_50 (s0 : Nat) (b0 : Nat) (c0 : Nat) (s1 : Nat) (b1 : Nat) (c1 : Nat) (Q : Int32 → Mem → Prop) : Nat → Int32 → Mem → Prop
  | 0, _, _ => False
  | n + 1, x2, M => (if (M.1 (7, s1, b1, c1) 3) ≤ x2 then (Q (0 : Int32) M) else (vp_in x2 4 ∧ (w_X6_placeOf s0 b0 c0 (M.1 (8, s1, b1, c1) x2.toNatClampNeg)  (fun (r65 : Int32) (M65 : Mem) => (if r65 = (-2000000 : Int32) then (Q (1 : Int32) M65) else ((w_X6_differsFrom_50 s0 b0 c0 s1 b1 c1 Q n) (x2 + 1) M65))) M)))
def w_X6_differsFrom (s0 : Nat) (b0 : Nat) (c0 : Nat) (s1 : Nat) (b1 : Nat) (c1 : Nat) (Q : Int32 → Mem → Prop) (M : Mem) : Prop := (if (M.1 (7, s0, b0, c0) 0) = (M.1 (7, s1, b1, c1) 0) then (if (M.1 (7, s0, b0, c0) 1) = (M.1 (7, s1, b1, c1) 1) then (if (M.1 (7, s0, b0, c0) 4) = (M.1 (7, s1, b1, c1) 4) then (if (M.1 (7, s0, b0, c0) 3) = (M.1 (7, s1, b1, c1) 3) then (∃ n : Nat, w_X6_differsFrom_50 s0 b0 c0 s1 b1 c1 Q n (0 : Int32) M) else (Q (1 : Int32) M)) else (Q (1 : Int32) M)) else (Q (1 : Int32) M)) else (Q (1 : Int32) M))
section
variable {p : Program} {l : Launch} {e : Env} {s : State} {m : MethodId} {args : Array Value} {below : List Frame} {meth : Method} {c : Code} 
variable  {G : GG} {I : ix → Prop} {ad : ix → Nat}
set_option maxHeartbeats 4000000 in
set_option maxRecDepth 100000 in
theorem j_X6_differsFrom_50 {s0 : Nat} {b0 : Nat} {c0 : Nat} {s1 : Nat} {b1 : Nat} {c1 : Nat} (C : cx p s m args meth c cX6_differsFrom 3 (some .boolean) RX6 G) (hC : clo I) (h0 : I (7, s0, b0, c0)) (h1 : I (7, s1, b1, c1)) {Q : Int32 → Mem → Prop} : ∀ (n : Nat), ∀ (x2 : Int32) (M : Mem) (H : Heap) (locs : List Loc) (ls : Array Slot), w_X6_differsFrom_50 s0 b0 c0 s1 b1 c1 Q n x2 M → wd G I ad M H → va_S (fA I ad) s.heap H locs → lv_has ls 3 [(0, .ref (ad (7, s0, b0, c0))), (1, .ref (ad (7, s1, b1, c1))), (2, .int x2)] → W p l e rm_X6_differsFrom s m args below meth c H locs 0 0 (MQ below (qI G I ad Q) args s 0 0 (fA I ad)) (F0 m 50 ls []) := by
  have hx := C.1
  have hb := C.2.1
  have hown := C.2.2.2.1
  have hts := C.2.2.2.2.1
  intro n
  induction n with
  | zero =>
    intro x2 M H locs ls hw hP hS hl
    rw [w_X6_differsFrom_50] at hw
    exact hw.elim
  | succ n ih =>
    intro x2 M H locs ls hw hP hS hl
    rw [w_X6_differsFrom_50] at hw
    refine lv_iload_n (pc := 50) hx hb dX6_differsFrom_50 rfl (lv_at hl 2 rfl) ?_
    refine lv_aload_n (pc := 51) hx hb dX6_differsFrom_51 rfl (lv_at hl 1 rfl) ?_
    refine gf_112 (pc := 52) C hP h1 dX6_differsFrom_52 ?_
    refine lv_icmp_ge (pc := 55) (tgt := 81) hx hb dX6_differsFrom_55 (by decide) (fun h => ?_) (fun h => ?_)
    · replace hw := if_t h hw
      refine lv_iconst (pc := 81) (v := (0 : Int32)) hx hb dX6_differsFrom_81 (by decide) ?_
      exact r_zret (pc := 82) C hP hS (by decide) hw dX6_differsFrom_82
    · replace hw := if_f h hw
      refine lv_aload_n (pc := 58) hx hb dX6_differsFrom_58 rfl (lv_at hl 0 rfl) ?_
      refine lv_aload_n (pc := 59) hx hb dX6_differsFrom_59 rfl (lv_at hl 1 rfl) ?_
      refine gf_116 (pc := 60) C hP h1 dX6_differsFrom_60 ?_
      refine lv_iload_n (pc := 63) hx hb dX6_differsFrom_63 rfl (lv_at hl 2 rfl) ?_
      refine r_ialdK (pc := 64) (n := 4) (k := x2.toNatClampNeg) C hP (cl_7_5 hC h1) (fun _ _ _ _ => rfl) hw.1 rfl dX6_differsFrom_64 ?_
      replace hw := hw.2
      refine r_cVI (pc := 65) (rest := []) (As := [.int (M.1 (8, s1, b1, c1) x2.toNatClampNeg)]) C hl.1 hP hS (k_X6_placeOf l G hC h0 hw) h0 rfl rfl mw_350 mw_352 mw_2 mw_59 mw_353 ⟨rfl, rfl⟩ hd_X6_placeOf rfl rfl ⟨Nat.le_of_ble_eq_true rfl, Nat.le_of_ble_eq_true rfl⟩ (Nat.le_of_ble_eq_true rfl) ⟨Nat.zero_le _, Nat.zero_le _⟩ dX6_differsFrom_65 (fun r65 M65 H locs hw hP hS => ?_)
      refine lv_ldc (pc := 68) (own := RX6) (v := (-2000000 : Int32)) hx hb hown (hts _ mw_102) dX6_differsFrom_68 ?_
      refine lv_icmp_ne (pc := 70) (tgt := 75) hx hb dX6_differsFrom_70 (by decide) (fun h => ?_) (fun h => ?_)
      · replace hw := if_f h hw
        refine lv_iinc (pc := 75) (v := x2 + 1) (lv' := [(2, .int (x2 + 1)), (0, .ref (ad (7, s0, b0, c0))), (1, .ref (ad (7, s1, b1, c1)))]) hx hb dX6_differsFrom_75 hl (k := 2) rfl rfl (by decide) rfl (fun ls hl => ?_)
        refine lv_goto (pc := 78) (tgt := 50) hx hb dX6_differsFrom_78 (by decide) ?_
        exact ih (x2 + 1) M65 _ _ _ hw hP hS (lv_sub hl [1, 2, 0] rfl)
      · replace hw := if_t h hw
        refine lv_iconst (pc := 73) (v := (1 : Int32)) hx hb dX6_differsFrom_73 (by decide) ?_
        exact r_zret (pc := 74) C hP hS (by decide) hw dX6_differsFrom_74
set_option maxHeartbeats 4000000 in
set_option maxRecDepth 100000 in
theorem j_X6_differsFrom_0 {s0 : Nat} {b0 : Nat} {c0 : Nat} {s1 : Nat} {b1 : Nat} {c1 : Nat} (C : cx p s m args meth c cX6_differsFrom 3 (some .boolean) RX6 G) (hC : clo I) (h0 : I (7, s0, b0, c0)) (h1 : I (7, s1, b1, c1)) {Q : Int32 → Mem → Prop} : ∀ (M : Mem) (H : Heap) (locs : List Loc) (ls : Array Slot), w_X6_differsFrom s0 b0 c0 s1 b1 c1 Q M → wd G I ad M H → va_S (fA I ad) s.heap H locs → lv_has ls 3 [(0, .ref (ad (7, s0, b0, c0))), (1, .ref (ad (7, s1, b1, c1)))] → W p l e rm_X6_differsFrom s m args below meth c H locs 0 0 (MQ below (qI G I ad Q) args s 0 0 (fA I ad)) (F0 m 0 ls []) := by
  have hx := C.1
  have hb := C.2.1
  have hown := C.2.2.2.1
  have hts := C.2.2.2.2.1
  intro M H locs ls hw hP hS hl
  unfold w_X6_differsFrom at hw
  refine lv_aload_n (pc := 0) hx hb dX6_differsFrom_0 rfl (lv_at hl 0 rfl) ?_
  refine gf_103 (pc := 1) C hP h0 dX6_differsFrom_1 ?_
  refine lv_aload_n (pc := 4) hx hb dX6_differsFrom_4 rfl (lv_at hl 1 rfl) ?_
  refine gf_103 (pc := 5) C hP h1 dX6_differsFrom_5 ?_
  refine lv_icmp_ne (pc := 8) (tgt := 22) hx hb dX6_differsFrom_8 (by decide) (fun h => ?_) (fun h => ?_)
  · replace hw := if_f h hw
    refine lv_iconst (pc := 22) (v := (1 : Int32)) hx hb dX6_differsFrom_22 (by decide) ?_
    exact r_zret (pc := 23) C hP hS (by decide) hw dX6_differsFrom_23
  · replace hw := if_t h hw
    refine lv_aload_n (pc := 11) hx hb dX6_differsFrom_11 rfl (lv_at hl 0 rfl) ?_
    refine gf_106 (pc := 12) C hP h0 dX6_differsFrom_12 ?_
    refine lv_aload_n (pc := 15) hx hb dX6_differsFrom_15 rfl (lv_at hl 1 rfl) ?_
    refine gf_106 (pc := 16) C hP h1 dX6_differsFrom_16 ?_
    refine lv_icmp_eq (pc := 19) (tgt := 24) hx hb dX6_differsFrom_19 (by decide) (fun h => ?_) (fun h => ?_)
    · replace hw := if_t h hw
      refine lv_aload_n (pc := 24) hx hb dX6_differsFrom_24 rfl (lv_at hl 0 rfl) ?_
      refine gf_114 (pc := 25) C hP h0 dX6_differsFrom_25 ?_
      refine lv_aload_n (pc := 28) hx hb dX6_differsFrom_28 rfl (lv_at hl 1 rfl) ?_
      refine gf_114 (pc := 29) C hP h1 dX6_differsFrom_29 ?_
      refine lv_icmp_ne (pc := 32) (tgt := 46) hx hb dX6_differsFrom_32 (by decide) (fun h => ?_) (fun h => ?_)
      · replace hw := if_f h hw
        refine lv_iconst (pc := 46) (v := (1 : Int32)) hx hb dX6_differsFrom_46 (by decide) ?_
        exact r_zret (pc := 47) C hP hS (by decide) hw dX6_differsFrom_47
      · replace hw := if_t h hw
        refine lv_aload_n (pc := 35) hx hb dX6_differsFrom_35 rfl (lv_at hl 0 rfl) ?_
        refine gf_112 (pc := 36) C hP h0 dX6_differsFrom_36 ?_
        refine lv_aload_n (pc := 39) hx hb dX6_differsFrom_39 rfl (lv_at hl 1 rfl) ?_
        refine gf_112 (pc := 40) C hP h1 dX6_differsFrom_40 ?_
        refine lv_icmp_eq (pc := 43) (tgt := 48) hx hb dX6_differsFrom_43 (by decide) (fun h => ?_) (fun h => ?_)
        · replace hw := if_t h hw
          refine lv_iconst (pc := 48) (v := (0 : Int32)) hx hb dX6_differsFrom_48 (by decide) ?_
          refine lv_istore_n (pc := 49) (lv' := [(2, .int (0 : Int32)), (0, .ref (ad (7, s0, b0, c0))), (1, .ref (ad (7, s1, b1, c1)))]) hx hb dX6_differsFrom_49 rfl hl (by decide) rfl (fun ls hl => ?_)
          obtain ⟨n0, hw⟩ := hw
          exact j_X6_differsFrom_50 C hC h0 h1 n0 (0 : Int32) M _ _ _ hw hP hS (lv_sub hl [1, 2, 0] rfl)
        · replace hw := if_f h hw
          refine lv_iconst (pc := 46) (v := (1 : Int32)) hx hb dX6_differsFrom_46 (by decide) ?_
          exact r_zret (pc := 47) C hP hS (by decide) hw dX6_differsFrom_47
    · replace hw := if_f h hw
      refine lv_iconst (pc := 22) (v := (1 : Int32)) hx hb dX6_differsFrom_22 (by decide) ?_
      exact r_zret (pc := 23) C hP hS (by decide) hw dX6_differsFrom_23
end
theorem k_X6_differsFrom (l : Launch) (G : GG) {I : ix → Prop} {ad : ix → Nat} (hC : clo I) {s0 : Nat} {b0 : Nat} {c0 : Nat} {s1 : Nat} {b1 : Nat} {c1 : Nat} (h0 : I (7, s0, b0, c0)) (h1 : I (7, s1, b1, c1)) {Q : Int32 → Mem → Prop} {M : Mem} (hw : w_X6_differsFrom s0 b0 c0 s1 b1 c1 Q M) : Met l yX6_differsFrom (wW yX6_differsFrom cX6_differsFrom 3 (some .boolean)) rm_X6_differsFrom (va_Pc [.ref (ad (7, s0, b0, c0)), .ref (ad (7, s1, b1, c1))] (fun U => wd G I ad M U.heap ∧ wK G U)) (qI G I ad Q) 0 0 (fA I ad) := met_of (by decide +kernel) (Nat.le_of_ble_eq_true rfl) (fun p e s m below meth c C hP hS ls hl => j_X6_differsFrom_0 C hC h0 h1 _ _ _ _ hw hP hS hl)
abbrev rm_X6_copyFrom : Room := { frames := 1, cells := 0, slots := 0, locals := 26 }
theorem hd_X6_copyFrom : yX6_copyFrom.cls ≠ "java/lang/invoke/MethodHandle" ∧ yX6_copyFrom.cls ≠ "java/lang/invoke/VarHandle" ∧ (parseMethodDescriptor yX6_copyFrom.desc).map (fun d => d.parameters.length) = some 1 := ⟨by decide +kernel, by decide +kernel, by decide +kernel⟩
def w_X6_copyFrom (s0 : Nat) (b0 : Nat) (c0 : Nat) (s1 : Nat) (b1 : Nat) (c1 : Nat) (Q : Mem → Prop) (M : Mem) : Prop := ((((mu (mu (mu (mu M (7, s0, b0, c0) 0 (M.1 (7, s1, b1, c1) 0)) (7, s0, b0, c0) 1 ((mu M (7, s0, b0, c0) 0 (M.1 (7, s1, b1, c1) 0)).1 (7, s1, b1, c1) 1)) (7, s0, b0, c0) 2 ((mu (mu M (7, s0, b0, c0) 0 (M.1 (7, s1, b1, c1) 0)) (7, s0, b0, c0) 1 ((mu M (7, s0, b0, c0) 0 (M.1 (7, s1, b1, c1) 0)).1 (7, s1, b1, c1) 1)).1 (7, s1, b1, c1) 2)) (7, s0, b0, c0) 3 ((mu (mu (mu M (7, s0, b0, c0) 0 (M.1 (7, s1, b1, c1) 0)) (7, s0, b0, c0) 1 ((mu M (7, s0, b0, c0) 0 (M.1 (7, s1, b1, c1) 0)).1 (7, s1, b1, c1) 1)) (7, s0, b0, c0) 2 ((mu (mu M (7, s0, b0, c0) 0 (M.1 (7, s1, b1, c1) 0)) (7, s0, b0, c0) 1 ((mu M (7, s0, b0, c0) 0 (M.1 (7, s1, b1, c1) 0)).1 (7, s1, b1, c1) 1)).1 (7, s1, b1, c1) 2)).1 (7, s1, b1, c1) 3)).1 (7, s1, b1, c1) 4) = 0 ∨ ((mu (mu (mu (mu M (7, s0, b0, c0) 0 (M.1 (7, s1, b1, c1) 0)) (7, s0, b0, c0) 1 ((mu M (7, s0, b0, c0) 0 (M.1 (7, s1, b1, c1) 0)).1 (7, s1, b1, c1) 1)) (7, s0, b0, c0) 2 ((mu (mu M (7, s0, b0, c0) 0 (M.1 (7, s1, b1, c1) 0)) (7, s0, b0, c0) 1 ((mu M (7, s0, b0, c0) 0 (M.1 (7, s1, b1, c1) 0)).1 (7, s1, b1, c1) 1)).1 (7, s1, b1, c1) 2)) (7, s0, b0, c0) 3 ((mu (mu (mu M (7, s0, b0, c0) 0 (M.1 (7, s1, b1, c1) 0)) (7, s0, b0, c0) 1 ((mu M (7, s0, b0, c0) 0 (M.1 (7, s1, b1, c1) 0)).1 (7, s1, b1, c1) 1)) (7, s0, b0, c0) 2 ((mu (mu M (7, s0, b0, c0) 0 (M.1 (7, s1, b1, c1) 0)) (7, s0, b0, c0) 1 ((mu M (7, s0, b0, c0) 0 (M.1 (7, s1, b1, c1) 0)).1 (7, s1, b1, c1) 1)).1 (7, s1, b1, c1) 2)).1 (7, s1, b1, c1) 3)).1 (7, s1, b1, c1) 4) = 1) ∧ (Q (mr (mr (mu (mu (mu (mu (mu M (7, s0, b0, c0) 0 (M.1 (7, s1, b1, c1) 0)) (7, s0, b0, c0) 1 ((mu M (7, s0, b0, c0) 0 (M.1 (7, s1, b1, c1) 0)).1 (7, s1, b1, c1) 1)) (7, s0, b0, c0) 2 ((mu (mu M (7, s0, b0, c0) 0 (M.1 (7, s1, b1, c1) 0)) (7, s0, b0, c0) 1 ((mu M (7, s0, b0, c0) 0 (M.1 (7, s1, b1, c1) 0)).1 (7, s1, b1, c1) 1)).1 (7, s1, b1, c1) 2)) (7, s0, b0, c0) 3 ((mu (mu (mu M (7, s0, b0, c0) 0 (M.1 (7, s1, b1, c1) 0)) (7, s0, b0, c0) 1 ((mu M (7, s0, b0, c0) 0 (M.1 (7, s1, b1, c1) 0)).1 (7, s1, b1, c1) 1)) (7, s0, b0, c0) 2 ((mu (mu M (7, s0, b0, c0) 0 (M.1 (7, s1, b1, c1) 0)) (7, s0, b0, c0) 1 ((mu M (7, s0, b0, c0) 0 (M.1 (7, s1, b1, c1) 0)).1 (7, s1, b1, c1) 1)).1 (7, s1, b1, c1) 2)).1 (7, s1, b1, c1) 3)) (7, s0, b0, c0) 4 ((mu (mu (mu (mu M (7, s0, b0, c0) 0 (M.1 (7, s1, b1, c1) 0)) (7, s0, b0, c0) 1 ((mu M (7, s0, b0, c0) 0 (M.1 (7, s1, b1, c1) 0)).1 (7, s1, b1, c1) 1)) (7, s0, b0, c0) 2 ((mu (mu M (7, s0, b0, c0) 0 (M.1 (7, s1, b1, c1) 0)) (7, s0, b0, c0) 1 ((mu M (7, s0, b0, c0) 0 (M.1 (7, s1, b1, c1) 0)).1 (7, s1, b1, c1) 1)).1 (7, s1, b1, c1) 2)) (7, s0, b0, c0) 3 ((mu (mu (mu M (7, s0, b0, c0) 0 (M.1 (7, s1, b1, c1) 0)) (7, s0, b0, c0) 1 ((mu M (7, s0, b0, c0) 0 (M.1 (7, s1, b1, c1) 0)).1 (7, s1, b1, c1) 1)) (7, s0, b0, c0) 2 ((mu (mu M (7, s0, b0, c0) 0 (M.1 (7, s1, b1, c1) 0)) (7, s0, b0, c0) 1 ((mu M (7, s0, b0, c0) 0 (M.1 (7, s1, b1, c1) 0)).1 (7, s1, b1, c1) 1)).1 (7, s1, b1, c1) 2)).1 (7, s1, b1, c1) 3)).1 (7, s1, b1, c1) 4)) (8, s0, b0, c0) (va_cpy ((mu (mu (mu (mu (mu M (7, s0, b0, c0) 0 (M.1 (7, s1, b1, c1) 0)) (7, s0, b0, c0) 1 ((mu M (7, s0, b0, c0) 0 (M.1 (7, s1, b1, c1) 0)).1 (7, s1, b1, c1) 1)) (7, s0, b0, c0) 2 ((mu (mu M (7, s0, b0, c0) 0 (M.1 (7, s1, b1, c1) 0)) (7, s0, b0, c0) 1 ((mu M (7, s0, b0, c0) 0 (M.1 (7, s1, b1, c1) 0)).1 (7, s1, b1, c1) 1)).1 (7, s1, b1, c1) 2)) (7, s0, b0, c0) 3 ((mu (mu (mu M (7, s0, b0, c0) 0 (M.1 (7, s1, b1, c1) 0)) (7, s0, b0, c0) 1 ((mu M (7, s0, b0, c0) 0 (M.1 (7, s1, b1, c1) 0)).1 (7, s1, b1, c1) 1)) (7, s0, b0, c0) 2 ((mu (mu M (7, s0, b0, c0) 0 (M.1 (7, s1, b1, c1) 0)) (7, s0, b0, c0) 1 ((mu M (7, s0, b0, c0) 0 (M.1 (7, s1, b1, c1) 0)).1 (7, s1, b1, c1) 1)).1 (7, s1, b1, c1) 2)).1 (7, s1, b1, c1) 3)) (7, s0, b0, c0) 4 ((mu (mu (mu (mu M (7, s0, b0, c0) 0 (M.1 (7, s1, b1, c1) 0)) (7, s0, b0, c0) 1 ((mu M (7, s0, b0, c0) 0 (M.1 (7, s1, b1, c1) 0)).1 (7, s1, b1, c1) 1)) (7, s0, b0, c0) 2 ((mu (mu M (7, s0, b0, c0) 0 (M.1 (7, s1, b1, c1) 0)) (7, s0, b0, c0) 1 ((mu M (7, s0, b0, c0) 0 (M.1 (7, s1, b1, c1) 0)).1 (7, s1, b1, c1) 1)).1 (7, s1, b1, c1) 2)) (7, s0, b0, c0) 3 ((mu (mu (mu M (7, s0, b0, c0) 0 (M.1 (7, s1, b1, c1) 0)) (7, s0, b0, c0) 1 ((mu M (7, s0, b0, c0) 0 (M.1 (7, s1, b1, c1) 0)).1 (7, s1, b1, c1) 1)) (7, s0, b0, c0) 2 ((mu (mu M (7, s0, b0, c0) 0 (M.1 (7, s1, b1, c1) 0)) (7, s0, b0, c0) 1 ((mu M (7, s0, b0, c0) 0 (M.1 (7, s1, b1, c1) 0)).1 (7, s1, b1, c1) 1)).1 (7, s1, b1, c1) 2)).1 (7, s1, b1, c1) 3)).1 (7, s1, b1, c1) 4)).1 (8, s1, b1, c1)) ((mu (mu (mu (mu (mu M (7, s0, b0, c0) 0 (M.1 (7, s1, b1, c1) 0)) (7, s0, b0, c0) 1 ((mu M (7, s0, b0, c0) 0 (M.1 (7, s1, b1, c1) 0)).1 (7, s1, b1, c1) 1)) (7, s0, b0, c0) 2 ((mu (mu M (7, s0, b0, c0) 0 (M.1 (7, s1, b1, c1) 0)) (7, s0, b0, c0) 1 ((mu M (7, s0, b0, c0) 0 (M.1 (7, s1, b1, c1) 0)).1 (7, s1, b1, c1) 1)).1 (7, s1, b1, c1) 2)) (7, s0, b0, c0) 3 ((mu (mu (mu M (7, s0, b0, c0) 0 (M.1 (7, s1, b1, c1) 0)) (7, s0, b0, c0) 1 ((mu M (7, s0, b0, c0) 0 (M.1 (7, s1, b1, c1) 0)).1 (7, s1, b1, c1) 1)) (7, s0, b0, c0) 2 ((mu (mu M (7, s0, b0, c0) 0 (M.1 (7, s1, b1, c1) 0)) (7, s0, b0, c0) 1 ((mu M (7, s0, b0, c0) 0 (M.1 (7, s1, b1, c1) 0)).1 (7, s1, b1, c1) 1)).1 (7, s1, b1, c1) 2)).1 (7, s1, b1, c1) 3)) (7, s0, b0, c0) 4 ((mu (mu (mu (mu M (7, s0, b0, c0) 0 (M.1 (7, s1, b1, c1) 0)) (7, s0, b0, c0) 1 ((mu M (7, s0, b0, c0) 0 (M.1 (7, s1, b1, c1) 0)).1 (7, s1, b1, c1) 1)) (7, s0, b0, c0) 2 ((mu (mu M (7, s0, b0, c0) 0 (M.1 (7, s1, b1, c1) 0)) (7, s0, b0, c0) 1 ((mu M (7, s0, b0, c0) 0 (M.1 (7, s1, b1, c1) 0)).1 (7, s1, b1, c1) 1)).1 (7, s1, b1, c1) 2)) (7, s0, b0, c0) 3 ((mu (mu (mu M (7, s0, b0, c0) 0 (M.1 (7, s1, b1, c1) 0)) (7, s0, b0, c0) 1 ((mu M (7, s0, b0, c0) 0 (M.1 (7, s1, b1, c1) 0)).1 (7, s1, b1, c1) 1)) (7, s0, b0, c0) 2 ((mu (mu M (7, s0, b0, c0) 0 (M.1 (7, s1, b1, c1) 0)) (7, s0, b0, c0) 1 ((mu M (7, s0, b0, c0) 0 (M.1 (7, s1, b1, c1) 0)).1 (7, s1, b1, c1) 1)).1 (7, s1, b1, c1) 2)).1 (7, s1, b1, c1) 3)).1 (7, s1, b1, c1) 4)).1 (8, s0, b0, c0)) 0 0 4)) (9, s0, b0, c0) (va_cpy ((mr (mu (mu (mu (mu (mu M (7, s0, b0, c0) 0 (M.1 (7, s1, b1, c1) 0)) (7, s0, b0, c0) 1 ((mu M (7, s0, b0, c0) 0 (M.1 (7, s1, b1, c1) 0)).1 (7, s1, b1, c1) 1)) (7, s0, b0, c0) 2 ((mu (mu M (7, s0, b0, c0) 0 (M.1 (7, s1, b1, c1) 0)) (7, s0, b0, c0) 1 ((mu M (7, s0, b0, c0) 0 (M.1 (7, s1, b1, c1) 0)).1 (7, s1, b1, c1) 1)).1 (7, s1, b1, c1) 2)) (7, s0, b0, c0) 3 ((mu (mu (mu M (7, s0, b0, c0) 0 (M.1 (7, s1, b1, c1) 0)) (7, s0, b0, c0) 1 ((mu M (7, s0, b0, c0) 0 (M.1 (7, s1, b1, c1) 0)).1 (7, s1, b1, c1) 1)) (7, s0, b0, c0) 2 ((mu (mu M (7, s0, b0, c0) 0 (M.1 (7, s1, b1, c1) 0)) (7, s0, b0, c0) 1 ((mu M (7, s0, b0, c0) 0 (M.1 (7, s1, b1, c1) 0)).1 (7, s1, b1, c1) 1)).1 (7, s1, b1, c1) 2)).1 (7, s1, b1, c1) 3)) (7, s0, b0, c0) 4 ((mu (mu (mu (mu M (7, s0, b0, c0) 0 (M.1 (7, s1, b1, c1) 0)) (7, s0, b0, c0) 1 ((mu M (7, s0, b0, c0) 0 (M.1 (7, s1, b1, c1) 0)).1 (7, s1, b1, c1) 1)) (7, s0, b0, c0) 2 ((mu (mu M (7, s0, b0, c0) 0 (M.1 (7, s1, b1, c1) 0)) (7, s0, b0, c0) 1 ((mu M (7, s0, b0, c0) 0 (M.1 (7, s1, b1, c1) 0)).1 (7, s1, b1, c1) 1)).1 (7, s1, b1, c1) 2)) (7, s0, b0, c0) 3 ((mu (mu (mu M (7, s0, b0, c0) 0 (M.1 (7, s1, b1, c1) 0)) (7, s0, b0, c0) 1 ((mu M (7, s0, b0, c0) 0 (M.1 (7, s1, b1, c1) 0)).1 (7, s1, b1, c1) 1)) (7, s0, b0, c0) 2 ((mu (mu M (7, s0, b0, c0) 0 (M.1 (7, s1, b1, c1) 0)) (7, s0, b0, c0) 1 ((mu M (7, s0, b0, c0) 0 (M.1 (7, s1, b1, c1) 0)).1 (7, s1, b1, c1) 1)).1 (7, s1, b1, c1) 2)).1 (7, s1, b1, c1) 3)).1 (7, s1, b1, c1) 4)) (8, s0, b0, c0) (va_cpy ((mu (mu (mu (mu (mu M (7, s0, b0, c0) 0 (M.1 (7, s1, b1, c1) 0)) (7, s0, b0, c0) 1 ((mu M (7, s0, b0, c0) 0 (M.1 (7, s1, b1, c1) 0)).1 (7, s1, b1, c1) 1)) (7, s0, b0, c0) 2 ((mu (mu M (7, s0, b0, c0) 0 (M.1 (7, s1, b1, c1) 0)) (7, s0, b0, c0) 1 ((mu M (7, s0, b0, c0) 0 (M.1 (7, s1, b1, c1) 0)).1 (7, s1, b1, c1) 1)).1 (7, s1, b1, c1) 2)) (7, s0, b0, c0) 3 ((mu (mu (mu M (7, s0, b0, c0) 0 (M.1 (7, s1, b1, c1) 0)) (7, s0, b0, c0) 1 ((mu M (7, s0, b0, c0) 0 (M.1 (7, s1, b1, c1) 0)).1 (7, s1, b1, c1) 1)) (7, s0, b0, c0) 2 ((mu (mu M (7, s0, b0, c0) 0 (M.1 (7, s1, b1, c1) 0)) (7, s0, b0, c0) 1 ((mu M (7, s0, b0, c0) 0 (M.1 (7, s1, b1, c1) 0)).1 (7, s1, b1, c1) 1)).1 (7, s1, b1, c1) 2)).1 (7, s1, b1, c1) 3)) (7, s0, b0, c0) 4 ((mu (mu (mu (mu M (7, s0, b0, c0) 0 (M.1 (7, s1, b1, c1) 0)) (7, s0, b0, c0) 1 ((mu M (7, s0, b0, c0) 0 (M.1 (7, s1, b1, c1) 0)).1 (7, s1, b1, c1) 1)) (7, s0, b0, c0) 2 ((mu (mu M (7, s0, b0, c0) 0 (M.1 (7, s1, b1, c1) 0)) (7, s0, b0, c0) 1 ((mu M (7, s0, b0, c0) 0 (M.1 (7, s1, b1, c1) 0)).1 (7, s1, b1, c1) 1)).1 (7, s1, b1, c1) 2)) (7, s0, b0, c0) 3 ((mu (mu (mu M (7, s0, b0, c0) 0 (M.1 (7, s1, b1, c1) 0)) (7, s0, b0, c0) 1 ((mu M (7, s0, b0, c0) 0 (M.1 (7, s1, b1, c1) 0)).1 (7, s1, b1, c1) 1)) (7, s0, b0, c0) 2 ((mu (mu M (7, s0, b0, c0) 0 (M.1 (7, s1, b1, c1) 0)) (7, s0, b0, c0) 1 ((mu M (7, s0, b0, c0) 0 (M.1 (7, s1, b1, c1) 0)).1 (7, s1, b1, c1) 1)).1 (7, s1, b1, c1) 2)).1 (7, s1, b1, c1) 3)).1 (7, s1, b1, c1) 4)).1 (8, s1, b1, c1)) ((mu (mu (mu (mu (mu M (7, s0, b0, c0) 0 (M.1 (7, s1, b1, c1) 0)) (7, s0, b0, c0) 1 ((mu M (7, s0, b0, c0) 0 (M.1 (7, s1, b1, c1) 0)).1 (7, s1, b1, c1) 1)) (7, s0, b0, c0) 2 ((mu (mu M (7, s0, b0, c0) 0 (M.1 (7, s1, b1, c1) 0)) (7, s0, b0, c0) 1 ((mu M (7, s0, b0, c0) 0 (M.1 (7, s1, b1, c1) 0)).1 (7, s1, b1, c1) 1)).1 (7, s1, b1, c1) 2)) (7, s0, b0, c0) 3 ((mu (mu (mu M (7, s0, b0, c0) 0 (M.1 (7, s1, b1, c1) 0)) (7, s0, b0, c0) 1 ((mu M (7, s0, b0, c0) 0 (M.1 (7, s1, b1, c1) 0)).1 (7, s1, b1, c1) 1)) (7, s0, b0, c0) 2 ((mu (mu M (7, s0, b0, c0) 0 (M.1 (7, s1, b1, c1) 0)) (7, s0, b0, c0) 1 ((mu M (7, s0, b0, c0) 0 (M.1 (7, s1, b1, c1) 0)).1 (7, s1, b1, c1) 1)).1 (7, s1, b1, c1) 2)).1 (7, s1, b1, c1) 3)) (7, s0, b0, c0) 4 ((mu (mu (mu (mu M (7, s0, b0, c0) 0 (M.1 (7, s1, b1, c1) 0)) (7, s0, b0, c0) 1 ((mu M (7, s0, b0, c0) 0 (M.1 (7, s1, b1, c1) 0)).1 (7, s1, b1, c1) 1)) (7, s0, b0, c0) 2 ((mu (mu M (7, s0, b0, c0) 0 (M.1 (7, s1, b1, c1) 0)) (7, s0, b0, c0) 1 ((mu M (7, s0, b0, c0) 0 (M.1 (7, s1, b1, c1) 0)).1 (7, s1, b1, c1) 1)).1 (7, s1, b1, c1) 2)) (7, s0, b0, c0) 3 ((mu (mu (mu M (7, s0, b0, c0) 0 (M.1 (7, s1, b1, c1) 0)) (7, s0, b0, c0) 1 ((mu M (7, s0, b0, c0) 0 (M.1 (7, s1, b1, c1) 0)).1 (7, s1, b1, c1) 1)) (7, s0, b0, c0) 2 ((mu (mu M (7, s0, b0, c0) 0 (M.1 (7, s1, b1, c1) 0)) (7, s0, b0, c0) 1 ((mu M (7, s0, b0, c0) 0 (M.1 (7, s1, b1, c1) 0)).1 (7, s1, b1, c1) 1)).1 (7, s1, b1, c1) 2)).1 (7, s1, b1, c1) 3)).1 (7, s1, b1, c1) 4)).1 (8, s0, b0, c0)) 0 0 4)).1 (9, s1, b1, c1)) ((mr (mu (mu (mu (mu (mu M (7, s0, b0, c0) 0 (M.1 (7, s1, b1, c1) 0)) (7, s0, b0, c0) 1 ((mu M (7, s0, b0, c0) 0 (M.1 (7, s1, b1, c1) 0)).1 (7, s1, b1, c1) 1)) (7, s0, b0, c0) 2 ((mu (mu M (7, s0, b0, c0) 0 (M.1 (7, s1, b1, c1) 0)) (7, s0, b0, c0) 1 ((mu M (7, s0, b0, c0) 0 (M.1 (7, s1, b1, c1) 0)).1 (7, s1, b1, c1) 1)).1 (7, s1, b1, c1) 2)) (7, s0, b0, c0) 3 ((mu (mu (mu M (7, s0, b0, c0) 0 (M.1 (7, s1, b1, c1) 0)) (7, s0, b0, c0) 1 ((mu M (7, s0, b0, c0) 0 (M.1 (7, s1, b1, c1) 0)).1 (7, s1, b1, c1) 1)) (7, s0, b0, c0) 2 ((mu (mu M (7, s0, b0, c0) 0 (M.1 (7, s1, b1, c1) 0)) (7, s0, b0, c0) 1 ((mu M (7, s0, b0, c0) 0 (M.1 (7, s1, b1, c1) 0)).1 (7, s1, b1, c1) 1)).1 (7, s1, b1, c1) 2)).1 (7, s1, b1, c1) 3)) (7, s0, b0, c0) 4 ((mu (mu (mu (mu M (7, s0, b0, c0) 0 (M.1 (7, s1, b1, c1) 0)) (7, s0, b0, c0) 1 ((mu M (7, s0, b0, c0) 0 (M.1 (7, s1, b1, c1) 0)).1 (7, s1, b1, c1) 1)) (7, s0, b0, c0) 2 ((mu (mu M (7, s0, b0, c0) 0 (M.1 (7, s1, b1, c1) 0)) (7, s0, b0, c0) 1 ((mu M (7, s0, b0, c0) 0 (M.1 (7, s1, b1, c1) 0)).1 (7, s1, b1, c1) 1)).1 (7, s1, b1, c1) 2)) (7, s0, b0, c0) 3 ((mu (mu (mu M (7, s0, b0, c0) 0 (M.1 (7, s1, b1, c1) 0)) (7, s0, b0, c0) 1 ((mu M (7, s0, b0, c0) 0 (M.1 (7, s1, b1, c1) 0)).1 (7, s1, b1, c1) 1)) (7, s0, b0, c0) 2 ((mu (mu M (7, s0, b0, c0) 0 (M.1 (7, s1, b1, c1) 0)) (7, s0, b0, c0) 1 ((mu M (7, s0, b0, c0) 0 (M.1 (7, s1, b1, c1) 0)).1 (7, s1, b1, c1) 1)).1 (7, s1, b1, c1) 2)).1 (7, s1, b1, c1) 3)).1 (7, s1, b1, c1) 4)) (8, s0, b0, c0) (va_cpy ((mu (mu (mu (mu (mu M (7, s0, b0, c0) 0 (M.1 (7, s1, b1, c1) 0)) (7, s0, b0, c0) 1 ((mu M (7, s0, b0, c0) 0 (M.1 (7, s1, b1, c1) 0)).1 (7, s1, b1, c1) 1)) (7, s0, b0, c0) 2 ((mu (mu M (7, s0, b0, c0) 0 (M.1 (7, s1, b1, c1) 0)) (7, s0, b0, c0) 1 ((mu M (7, s0, b0, c0) 0 (M.1 (7, s1, b1, c1) 0)).1 (7, s1, b1, c1) 1)).1 (7, s1, b1, c1) 2)) (7, s0, b0, c0) 3 ((mu (mu (mu M (7, s0, b0, c0) 0 (M.1 (7, s1, b1, c1) 0)) (7, s0, b0, c0) 1 ((mu M (7, s0, b0, c0) 0 (M.1 (7, s1, b1, c1) 0)).1 (7, s1, b1, c1) 1)) (7, s0, b0, c0) 2 ((mu (mu M (7, s0, b0, c0) 0 (M.1 (7, s1, b1, c1) 0)) (7, s0, b0, c0) 1 ((mu M (7, s0, b0, c0) 0 (M.1 (7, s1, b1, c1) 0)).1 (7, s1, b1, c1) 1)).1 (7, s1, b1, c1) 2)).1 (7, s1, b1, c1) 3)) (7, s0, b0, c0) 4 ((mu (mu (mu (mu M (7, s0, b0, c0) 0 (M.1 (7, s1, b1, c1) 0)) (7, s0, b0, c0) 1 ((mu M (7, s0, b0, c0) 0 (M.1 (7, s1, b1, c1) 0)).1 (7, s1, b1, c1) 1)) (7, s0, b0, c0) 2 ((mu (mu M (7, s0, b0, c0) 0 (M.1 (7, s1, b1, c1) 0)) (7, s0, b0, c0) 1 ((mu M (7, s0, b0, c0) 0 (M.1 (7, s1, b1, c1) 0)).1 (7, s1, b1, c1) 1)).1 (7, s1, b1, c1) 2)) (7, s0, b0, c0) 3 ((mu (mu (mu M (7, s0, b0, c0) 0 (M.1 (7, s1, b1, c1) 0)) (7, s0, b0, c0) 1 ((mu M (7, s0, b0, c0) 0 (M.1 (7, s1, b1, c1) 0)).1 (7, s1, b1, c1) 1)) (7, s0, b0, c0) 2 ((mu (mu M (7, s0, b0, c0) 0 (M.1 (7, s1, b1, c1) 0)) (7, s0, b0, c0) 1 ((mu M (7, s0, b0, c0) 0 (M.1 (7, s1, b1, c1) 0)).1 (7, s1, b1, c1) 1)).1 (7, s1, b1, c1) 2)).1 (7, s1, b1, c1) 3)).1 (7, s1, b1, c1) 4)).1 (8, s1, b1, c1)) ((mu (mu (mu (mu (mu M (7, s0, b0, c0) 0 (M.1 (7, s1, b1, c1) 0)) (7, s0, b0, c0) 1 ((mu M (7, s0, b0, c0) 0 (M.1 (7, s1, b1, c1) 0)).1 (7, s1, b1, c1) 1)) (7, s0, b0, c0) 2 ((mu (mu M (7, s0, b0, c0) 0 (M.1 (7, s1, b1, c1) 0)) (7, s0, b0, c0) 1 ((mu M (7, s0, b0, c0) 0 (M.1 (7, s1, b1, c1) 0)).1 (7, s1, b1, c1) 1)).1 (7, s1, b1, c1) 2)) (7, s0, b0, c0) 3 ((mu (mu (mu M (7, s0, b0, c0) 0 (M.1 (7, s1, b1, c1) 0)) (7, s0, b0, c0) 1 ((mu M (7, s0, b0, c0) 0 (M.1 (7, s1, b1, c1) 0)).1 (7, s1, b1, c1) 1)) (7, s0, b0, c0) 2 ((mu (mu M (7, s0, b0, c0) 0 (M.1 (7, s1, b1, c1) 0)) (7, s0, b0, c0) 1 ((mu M (7, s0, b0, c0) 0 (M.1 (7, s1, b1, c1) 0)).1 (7, s1, b1, c1) 1)).1 (7, s1, b1, c1) 2)).1 (7, s1, b1, c1) 3)) (7, s0, b0, c0) 4 ((mu (mu (mu (mu M (7, s0, b0, c0) 0 (M.1 (7, s1, b1, c1) 0)) (7, s0, b0, c0) 1 ((mu M (7, s0, b0, c0) 0 (M.1 (7, s1, b1, c1) 0)).1 (7, s1, b1, c1) 1)) (7, s0, b0, c0) 2 ((mu (mu M (7, s0, b0, c0) 0 (M.1 (7, s1, b1, c1) 0)) (7, s0, b0, c0) 1 ((mu M (7, s0, b0, c0) 0 (M.1 (7, s1, b1, c1) 0)).1 (7, s1, b1, c1) 1)).1 (7, s1, b1, c1) 2)) (7, s0, b0, c0) 3 ((mu (mu (mu M (7, s0, b0, c0) 0 (M.1 (7, s1, b1, c1) 0)) (7, s0, b0, c0) 1 ((mu M (7, s0, b0, c0) 0 (M.1 (7, s1, b1, c1) 0)).1 (7, s1, b1, c1) 1)) (7, s0, b0, c0) 2 ((mu (mu M (7, s0, b0, c0) 0 (M.1 (7, s1, b1, c1) 0)) (7, s0, b0, c0) 1 ((mu M (7, s0, b0, c0) 0 (M.1 (7, s1, b1, c1) 0)).1 (7, s1, b1, c1) 1)).1 (7, s1, b1, c1) 2)).1 (7, s1, b1, c1) 3)).1 (7, s1, b1, c1) 4)).1 (8, s0, b0, c0)) 0 0 4)).1 (9, s0, b0, c0)) 0 0 4))))
section
variable {p : Program} {l : Launch} {e : Env} {s : State} {m : MethodId} {args : Array Value} {below : List Frame} {meth : Method} {c : Code} 
variable  {G : GG} {I : ix → Prop} {ad : ix → Nat}
set_option maxHeartbeats 4000000 in
set_option maxRecDepth 100000 in
theorem j_X6_copyFrom_0 {s0 : Nat} {b0 : Nat} {c0 : Nat} {s1 : Nat} {b1 : Nat} {c1 : Nat} (C : cx p s m args meth c cX6_copyFrom 2 none RX6 G) (hC : clo I) (h0 : I (7, s0, b0, c0)) (h1 : I (7, s1, b1, c1)) {Q : Mem → Prop} : ∀ (M : Mem) (H : Heap) (locs : List Loc) (ls : Array Slot), w_X6_copyFrom s0 b0 c0 s1 b1 c1 Q M → wd G I ad M H → va_S (fA I ad) s.heap H locs → lv_has ls 2 [(0, .ref (ad (7, s0, b0, c0))), (1, .ref (ad (7, s1, b1, c1)))] → W p l e rm_X6_copyFrom s m args below meth c H locs 0 0 (MQ below (qV G I ad Q) args s 0 0 (fA I ad)) (F0 m 0 ls []) := by
  have hx := C.1
  have hb := C.2.1
  have hown := C.2.2.2.1
  have hts := C.2.2.2.2.1
  intro M H locs ls hw hP hS hl
  unfold w_X6_copyFrom at hw
  refine lv_aload_n (pc := 0) hx hb dX6_copyFrom_0 rfl (lv_at hl 0 rfl) ?_
  refine lv_aload_n (pc := 1) hx hb dX6_copyFrom_1 rfl (lv_at hl 1 rfl) ?_
  refine gf_103 (pc := 2) C hP h1 dX6_copyFrom_2 ?_
  refine pf_103 (pc := 5) C hP hS h0 dX6_copyFrom_5 (fun H locs hP hS => ?_)
  refine lv_aload_n (pc := 8) hx hb dX6_copyFrom_8 rfl (lv_at hl 0 rfl) ?_
  refine lv_aload_n (pc := 9) hx hb dX6_copyFrom_9 rfl (lv_at hl 1 rfl) ?_
  refine gf_106 (pc := 10) C hP h1 dX6_copyFrom_10 ?_
  refine pf_106 (pc := 13) C hP hS h0 dX6_copyFrom_13 (fun H locs hP hS => ?_)
  refine lv_aload_n (pc := 16) hx hb dX6_copyFrom_16 rfl (lv_at hl 0 rfl) ?_
  refine lv_aload_n (pc := 17) hx hb dX6_copyFrom_17 rfl (lv_at hl 1 rfl) ?_
  refine gf_109 (pc := 18) C hP h1 dX6_copyFrom_18 ?_
  refine pf_109 (pc := 21) C hP hS h0 dX6_copyFrom_21 (fun H locs hP hS => ?_)
  refine lv_aload_n (pc := 24) hx hb dX6_copyFrom_24 rfl (lv_at hl 0 rfl) ?_
  refine lv_aload_n (pc := 25) hx hb dX6_copyFrom_25 rfl (lv_at hl 1 rfl) ?_
  refine gf_112 (pc := 26) C hP h1 dX6_copyFrom_26 ?_
  refine pf_112 (pc := 29) C hP hS h0 dX6_copyFrom_29 (fun H locs hP hS => ?_)
  refine lv_aload_n (pc := 32) hx hb dX6_copyFrom_32 rfl (lv_at hl 0 rfl) ?_
  refine lv_aload_n (pc := 33) hx hb dX6_copyFrom_33 rfl (lv_at hl 1 rfl) ?_
  refine gf_114 (pc := 34) C hP h1 dX6_copyFrom_34 ?_
  refine pf_114 (pc := 37) hw.1 C hP hS h0 dX6_copyFrom_37 (fun H locs hP hS => ?_)
  replace hw := hw.2
  refine lv_aload_n (pc := 40) hx hb dX6_copyFrom_40 rfl (lv_at hl 1 rfl) ?_
  refine gf_116 (pc := 41) C hP h1 dX6_copyFrom_41 ?_
  refine lv_iconst (pc := 44) (v := (0 : Int32)) hx hb dX6_copyFrom_44 (by decide) ?_
  refine lv_aload_n (pc := 45) hx hb dX6_copyFrom_45 rfl (lv_at hl 0 rfl) ?_
  refine gf_116 (pc := 46) C hP h0 dX6_copyFrom_46 ?_
  refine lv_iconst (pc := 49) (v := (0 : Int32)) hx hb dX6_copyFrom_49 (by decide) ?_
  refine lv_iconst (pc := 50) (v := (4 : Int32)) hx hb dX6_copyFrom_50 (by decide) ?_
  refine r_copy (pc := 51) (rest := []) (n0 := 4) (n1 := 4) (a := 0) (b := 0) (k := 4) C hl.1 hP hS (cl_7_5 hC h1) (cl_7_5 hC h0) (fun _ _ _ _ => rfl) (fun _ _ _ _ => rfl) mw_398 mw_372 mw_371 mw_67 (by decide) (by decide) (by decide) (by decide) (by decide) (by decide) (by decide) (by decide) (Nat.le_of_ble_eq_true rfl) (by decide +kernel) dX6_copyFrom_51 (fun H locs hP hS => ?_)
  refine lv_aload_n (pc := 54) hx hb dX6_copyFrom_54 rfl (lv_at hl 1 rfl) ?_
  refine gf_118 (pc := 55) C hP h1 dX6_copyFrom_55 ?_
  refine lv_iconst (pc := 58) (v := (0 : Int32)) hx hb dX6_copyFrom_58 (by decide) ?_
  refine lv_aload_n (pc := 59) hx hb dX6_copyFrom_59 rfl (lv_at hl 0 rfl) ?_
  refine gf_118 (pc := 60) C hP h0 dX6_copyFrom_60 ?_
  refine lv_iconst (pc := 63) (v := (0 : Int32)) hx hb dX6_copyFrom_63 (by decide) ?_
  refine lv_iconst (pc := 64) (v := (4 : Int32)) hx hb dX6_copyFrom_64 (by decide) ?_
  refine r_copy (pc := 65) (rest := []) (n0 := 4) (n1 := 4) (a := 0) (b := 0) (k := 4) C hl.1 hP hS (cl_7_6 hC h1) (cl_7_6 hC h0) (fun _ _ _ _ => rfl) (fun _ _ _ _ => rfl) mw_398 mw_372 mw_371 mw_67 (by decide) (by decide) (by decide) (by decide) (by decide) (by decide) (by decide) (by decide) (Nat.le_of_ble_eq_true rfl) (by decide +kernel) dX6_copyFrom_65 (fun H locs hP hS => ?_)
  exact r_vret (pc := 68) C hP hS hw dX6_copyFrom_68
end
theorem k_X6_copyFrom (l : Launch) (G : GG) {I : ix → Prop} {ad : ix → Nat} (hC : clo I) {s0 : Nat} {b0 : Nat} {c0 : Nat} {s1 : Nat} {b1 : Nat} {c1 : Nat} (h0 : I (7, s0, b0, c0)) (h1 : I (7, s1, b1, c1)) {Q : Mem → Prop} {M : Mem} (hw : w_X6_copyFrom s0 b0 c0 s1 b1 c1 Q M) : Met l yX6_copyFrom (wW yX6_copyFrom cX6_copyFrom 2 none) rm_X6_copyFrom (va_Pc [.ref (ad (7, s0, b0, c0)), .ref (ad (7, s1, b1, c1))] (fun U => wd G I ad M U.heap ∧ wK G U)) (qV G I ad Q) 0 0 (fA I ad) := met_of (by decide +kernel) (Nat.le_of_ble_eq_true rfl) (fun p e s m below meth c C hP hS ls hl => j_X6_copyFrom_0 C hC h0 h1 _ _ _ _ hw hP hS hl)
end
