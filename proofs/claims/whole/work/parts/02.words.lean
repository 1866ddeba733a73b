theorem wt_0 {w : Cond} {i : Nat} (h : (k2_sels lw_privs)[i]? = some w) (hg : goodWord w = true) : w ∈ WG := List.mem_filter.mpr ⟨List.mem_append_left _ (List.mem_of_getElem? h), hg⟩
theorem wt_1 {w : Cond} {i : Nat} (h : tables_1_1[i]? = some w) (hg : goodWord w = true) : w ∈ WG := List.mem_filter.mpr ⟨List.mem_append_right _ (List.mem_append_left _ (List.mem_of_getElem? h)), hg⟩
theorem wt_2 {w : Cond} {i : Nat} (h : tables_1_2[i]? = some w) (hg : goodWord w = true) : w ∈ WG := List.mem_filter.mpr ⟨List.mem_append_right _ (List.mem_append_right _ (List.mem_append_left _ (List.mem_of_getElem? h))), hg⟩
theorem wt_3 {w : Cond} {i : Nat} (h : tables_1_3[i]? = some w) (hg : goodWord w = true) : w ∈ WG := List.mem_filter.mpr ⟨List.mem_append_right _ (List.mem_append_right _ (List.mem_append_right _ (List.mem_append_left _ (List.mem_of_getElem? h)))), hg⟩
theorem wt_4 {w : Cond} {i : Nat} (h : tables_1_4[i]? = some w) (hg : goodWord w = true) : w ∈ WG := List.mem_filter.mpr ⟨List.mem_append_right _ (List.mem_append_right _ (List.mem_append_right _ (List.mem_append_right _ (List.mem_of_getElem? h)))), hg⟩
theorem mw_0 : Cond.selects RX1 yX1_await yX1_await ∈ WG := wt_0 (i := 0) rfl rfl
theorem mw_1 : Cond.selects RX6 yX6_enlist yX6_enlist ∈ WG := wt_0 (i := 1) rfl rfl
theorem mw_2 : Cond.selects RX6 yX6_placeOf yX6_placeOf ∈ WG := wt_0 (i := 2) rfl rfl
theorem mw_3 : Cond.selects RX8 yX8_isRow yX8_isRow ∈ WG := wt_0 (i := 3) rfl rfl
theorem mw_4 : Cond.selects RX0 yX0_makeFresh yX0_makeFresh ∈ WG := wt_0 (i := 4) rfl rfl
theorem mw_5 : Cond.selects RX1 yX1_canStand yX1_canStand ∈ WG := wt_0 (i := 5) rfl rfl
theorem mw_6 : Cond.selects RX1 yX1_beginsTruth yX1_beginsTruth ∈ WG := wt_0 (i := 6) rfl rfl
theorem mw_7 : Cond.selects RX1 yX1_beginsTerm yX1_beginsTerm ∈ WG := wt_0 (i := 7) rfl rfl
theorem mw_8 : Cond.selects RX1 yX1_findParts yX1_findParts ∈ WG := wt_0 (i := 8) rfl rfl
theorem mw_9 : Cond.selects RX1 yX1_numberAt yX1_numberAt ∈ WG := wt_0 (i := 9) rfl rfl
theorem mw_10 : Cond.selects RX1 yX1_figureAt yX1_figureAt ∈ WG := wt_0 (i := 10) rfl rfl
theorem mw_11 : Cond.selects RX3 yX3_truthAt yX3_truthAt ∈ WG := wt_0 (i := 11) rfl rfl
theorem mw_12 : Cond.selects RX3 yX3_termAt yX3_termAt ∈ WG := wt_0 (i := 12) rfl rfl
theorem mw_13 : Cond.selects RX8 yX8_isPlace yX8_isPlace ∈ WG := wt_0 (i := 13) rfl rfl
theorem mw_14 : Cond.selects RX2 yX2_chancesAt yX2_chancesAt ∈ WG := wt_0 (i := 14) rfl rfl
theorem mw_15 : Cond.selects RX2 yX2_comparedChances yX2_comparedChances ∈ WG := wt_0 (i := 15) rfl rfl
theorem mw_16 : Cond.selects RX2 yX2_kindAt yX2_kindAt ∈ WG := wt_0 (i := 16) rfl rfl
theorem mw_17 : Cond.selects RX2 yX2_findBounds yX2_findBounds ∈ WG := wt_0 (i := 17) rfl rfl
theorem mw_18 : Cond.selects RX2 yX2_setBounds yX2_setBounds ∈ WG := wt_0 (i := 18) rfl rfl
theorem mw_19 : Cond.selects RX2 yX2_byteBounds yX2_byteBounds ∈ WG := wt_0 (i := 19) rfl rfl
theorem mw_20 : Cond.selects RX2 yX2_leftOverBounds yX2_leftOverBounds ∈ WG := wt_0 (i := 20) rfl rfl
theorem mw_21 : Cond.selects RX2 yX2_sumBounds yX2_sumBounds ∈ WG := wt_0 (i := 21) rfl rfl
theorem mw_22 : Cond.selects RX2 yX2_productBounds yX2_productBounds ∈ WG := wt_0 (i := 22) rfl rfl
theorem mw_23 : Cond.selects RX8 yX8_chancesIn yX8_chancesIn ∈ WG := wt_0 (i := 23) rfl rfl
theorem mw_24 : Cond.selects RX8 yX8_chancesByList yX8_chancesByList ∈ WG := wt_0 (i := 24) rfl rfl
theorem mw_25 : Cond.selects RX8 yX8_countMatches yX8_countMatches ∈ WG := wt_0 (i := 25) rfl rfl
theorem mw_26 : Cond.selects RX8 yX8_isMatch yX8_isMatch ∈ WG := wt_0 (i := 26) rfl rfl
theorem mw_27 : Cond.selects RX8 yX8_countUnlikeMatches yX8_countUnlikeMatches ∈ WG := wt_0 (i := 27) rfl rfl
theorem mw_28 : Cond.selects RX8 yX8_weighBlocks yX8_weighBlocks ∈ WG := wt_0 (i := 28) rfl rfl
theorem mw_29 : Cond.selects RX8 yX8_countScannedRows yX8_countScannedRows ∈ WG := wt_0 (i := 29) rfl rfl
theorem mw_30 : Cond.selects RX8 yX8_blocksRuled yX8_blocksRuled ∈ WG := wt_0 (i := 30) rfl rfl
theorem mw_31 : Cond.selects RX8 yX8_countRowsToRead yX8_countRowsToRead ∈ WG := wt_0 (i := 31) rfl rfl
theorem mw_32 : Cond.selects RX8 yX8_tallyMatches yX8_tallyMatches ∈ WG := wt_0 (i := 32) rfl rfl
theorem mw_33 : Cond.selects RX8 yX8_countUnlike yX8_countUnlike ∈ WG := wt_0 (i := 33) rfl rfl
theorem mw_34 : Cond.selects RX9 yX9_clear yX9_clear ∈ WG := wt_0 (i := 34) rfl rfl
theorem mw_35 : Cond.selects RX9 yX9_come yX9_come ∈ WG := wt_0 (i := 35) rfl rfl
theorem mw_36 : Cond.selects RX9 yX9_placeOf yX9_placeOf ∈ WG := wt_0 (i := 36) rfl rfl
theorem mw_37 : Cond.selects RX9 yX9_isRow yX9_isRow ∈ WG := wt_0 (i := 37) rfl rfl
theorem mw_38 : Cond.selects RX9 yX9_at yX9_at ∈ WG := wt_0 (i := 38) rfl rfl
theorem mw_39 : Cond.selects RX9 yX9_isStale yX9_isStale ∈ WG := wt_0 (i := 39) rfl rfl
theorem mw_40 : Cond.selects RX9 yX9_makeAnew yX9_makeAnew ∈ WG := wt_0 (i := 40) rfl rfl
theorem mw_41 : Cond.selects RX9 yX9_read yX9_read ∈ WG := wt_0 (i := 41) rfl rfl
theorem mw_42 : Cond.selects RX9 yX9_truthOfRow yX9_truthOfRow ∈ WG := wt_0 (i := 42) rfl rfl
theorem mw_43 : Cond.selects RX9 yX9_layRow yX9_layRow ∈ WG := wt_0 (i := 43) rfl rfl
theorem mw_44 : Cond.selects RX9 yX9_isTerm yX9_isTerm ∈ WG := wt_0 (i := 44) rfl rfl
theorem mw_45 : Cond.selects RX9 yX9_number yX9_number ∈ WG := wt_0 (i := 45) rfl rfl
theorem mw_46 : Cond.selects RX9 yX9_three yX9_three ∈ WG := wt_0 (i := 46) rfl rfl
theorem mw_47 : Cond.selects RX9 yX9_truthAt yX9_truthAt ∈ WG := wt_0 (i := 47) rfl rfl
theorem mw_48 : Cond.selects RX9 yX9_layBlock yX9_layBlock ∈ WG := wt_0 (i := 48) rfl rfl
theorem mw_49 : Cond.selects RX9 yX9_layRange yX9_layRange ∈ WG := wt_0 (i := 49) rfl rfl
theorem mw_50 : Cond.selects RX9 yX9_mayAt yX9_mayAt ∈ WG := wt_0 (i := 50) rfl rfl
theorem mw_51 : Cond.selects RX9 yX9_verdictOf yX9_verdictOf ∈ WG := wt_0 (i := 51) rfl rfl
theorem mw_52 : Cond.selects RX9 yX9_mayOf yX9_mayOf ∈ WG := wt_0 (i := 52) rfl rfl
theorem mw_53 : Cond.selects RX9 yX9_onlyColumn yX9_onlyColumn ∈ WG := wt_0 (i := 53) rfl rfl
theorem mw_54 : Cond.selects RX9 yX9_isLike yX9_isLike ∈ WG := wt_0 (i := 54) rfl rfl
theorem mw_55 : Cond.initialized RL ∈ WG := wt_1 (i := 0) rfl rfl
theorem mw_56 : Cond.initialized RX8 ∈ WG := wt_1 (i := 1) rfl rfl
theorem mw_57 : Cond.initialized RX5 ∈ WG := wt_1 (i := 2) rfl rfl
theorem mw_58 : Cond.initialized RX0 ∈ WG := wt_1 (i := 3) rfl rfl
theorem mw_59 : Cond.initialized RX6 ∈ WG := wt_1 (i := 4) rfl rfl
theorem mw_60 : Cond.initialized RX1 ∈ WG := wt_1 (i := 5) rfl rfl
theorem mw_61 : Cond.initialized RX3 ∈ WG := wt_1 (i := 6) rfl rfl
theorem mw_62 : Cond.initialized RX2 ∈ WG := wt_1 (i := 7) rfl rfl
theorem mw_63 : Cond.initialized RX4 ∈ WG := wt_1 (i := 8) rfl rfl
theorem mw_64 : Cond.initialized RX7 ∈ WG := wt_1 (i := 9) rfl rfl
theorem mw_65 : Cond.initialized RX9 ∈ WG := wt_1 (i := 10) rfl rfl
theorem mw_66 : Cond.initialized "java/lang/Math" ∈ WG := wt_1 (i := 11) rfl rfl
theorem mw_67 : Cond.initialized "java/lang/System" ∈ WG := wt_1 (i := 12) rfl rfl
theorem mw_68 : Cond.classLink RL 7 RX8 ∈ WG := wt_1 (i := 13) rfl rfl
theorem mw_69 : Cond.instantiable RX8 9 ∈ WG := wt_1 (i := 14) rfl rfl
theorem mw_70 : Cond.methodLink RL 9 yX8_init ∈ WG := wt_1 (i := 15) rfl rfl
theorem mw_71 : Cond.instanceMethod yX8_init ∈ WG := wt_1 (i := 16) rfl rfl
theorem mw_72 : Cond.code yX8_init cX8_init 1 none ∈ WG := wt_1 (i := 17) rfl rfl
theorem mw_73 : Cond.methodLink RX8 3 objectInit ∈ WG := wt_1 (i := 18) rfl rfl
theorem mw_74 : Cond.instanceMethod objectInit ∈ WG := wt_1 (i := 19) rfl rfl
theorem mw_75 : Cond.code objectInit ⟨#[0xb1]⟩ 1 none ∈ WG := wt_1 (i := 20) rfl rfl
theorem mw_76 : Cond.classLink RX8 9 RX5 ∈ WG := wt_1 (i := 21) rfl rfl
theorem mw_77 : Cond.instantiable RX5 1 ∈ WG := wt_1 (i := 22) rfl rfl
theorem mw_78 : Cond.methodLink RX8 11 yX5_init ∈ WG := wt_1 (i := 23) rfl rfl
theorem mw_79 : Cond.instanceMethod yX5_init ∈ WG := wt_1 (i := 24) rfl rfl
theorem mw_80 : Cond.code yX5_init cX5_init 2 none ∈ WG := wt_1 (i := 25) rfl rfl
theorem mw_81 : Cond.methodLink RX5 3 objectInit ∈ WG := wt_1 (i := 26) rfl rfl
theorem mw_82 : Cond.classLink RX5 9 RX0 ∈ WG := wt_1 (i := 27) rfl rfl
theorem mw_84 : Cond.instantiable RX0 4 ∈ WG := wt_1 (i := 29) rfl rfl
theorem mw_85 : Cond.methodLink RX5 17 yX0_init ∈ WG := wt_1 (i := 30) rfl rfl
theorem mw_86 : Cond.instanceMethod yX0_init ∈ WG := wt_1 (i := 31) rfl rfl
theorem mw_87 : Cond.code yX0_init cX0_init 2 none ∈ WG := wt_1 (i := 32) rfl rfl
theorem mw_88 : Cond.methodLink RX0 3 objectInit ∈ WG := wt_1 (i := 33) rfl rfl
theorem mw_89 : Cond.classLink RX0 9 "[[I" ∈ WG := wt_1 (i := 34) rfl rfl
theorem mw_91 : Cond.classLink RX0 16 RX6 ∈ WG := wt_1 (i := 36) rfl rfl
theorem mw_93 : Cond.instantiable RX6 7 ∈ WG := wt_1 (i := 38) rfl rfl
theorem mw_94 : Cond.methodLink RX0 22 yX6_init ∈ WG := wt_1 (i := 39) rfl rfl
theorem mw_95 : Cond.instanceMethod yX6_init ∈ WG := wt_1 (i := 40) rfl rfl
theorem mw_96 : Cond.code yX6_init cX6_init 1 none ∈ WG := wt_1 (i := 41) rfl rfl
theorem mw_97 : Cond.methodLink RX6 3 objectInit ∈ WG := wt_1 (i := 42) rfl rfl
theorem mw_98 : Cond.methodLink RX6 18 yX6_clear ∈ WG := wt_1 (i := 43) rfl rfl
theorem mw_99 : Cond.instanceMethod yX6_clear ∈ WG := wt_1 (i := 44) rfl rfl
theorem mw_100 : Cond.selects RX6 yX6_clear yX6_clear ∈ WG := wt_1 (i := 45) rfl rfl
theorem mw_101 : Cond.code yX6_clear cX6_clear 1 none ∈ WG := wt_1 (i := 46) rfl rfl
theorem mw_102 : Cond.constant RX6 21 (-2000000) ∈ WG := wt_1 (i := 47) rfl rfl
theorem mw_103 : Cond.fieldLink RX6 22 "BlockTruths$Summary" "least" "I" ∈ WG := wt_1 (i := 48) rfl rfl
theorem mw_104 : Cond.fieldLink RX8 105 "BlockTruths$Summary" "least" "I" ∈ WG := wt_1 (i := 49) rfl rfl
theorem mw_105 : Cond.fieldLink RX2 114 "BlockTruths$Summary" "least" "I" ∈ WG := wt_1 (i := 50) rfl rfl
theorem mw_106 : Cond.fieldLink RX6 26 "BlockTruths$Summary" "greatest" "I" ∈ WG := wt_1 (i := 51) rfl rfl
theorem mw_107 : Cond.fieldLink RX8 111 "BlockTruths$Summary" "greatest" "I" ∈ WG := wt_1 (i := 52) rfl rfl
theorem mw_108 : Cond.fieldLink RX2 117 "BlockTruths$Summary" "greatest" "I" ∈ WG := wt_1 (i := 53) rfl rfl
theorem mw_109 : Cond.fieldLink RX6 29 "BlockTruths$Summary" "missing" "I" ∈ WG := wt_1 (i := 54) rfl rfl
theorem mw_110 : Cond.fieldLink RX2 79 "BlockTruths$Summary" "missing" "I" ∈ WG := wt_1 (i := 55) rfl rfl
theorem mw_111 : Cond.fieldLink RX8 114 "BlockTruths$Summary" "missing" "I" ∈ WG := wt_1 (i := 56) rfl rfl
theorem mw_112 : Cond.fieldLink RX6 32 "BlockTruths$Summary" "size" "I" ∈ WG := wt_1 (i := 57) rfl rfl
theorem mw_113 : Cond.fieldLink RX8 122 "BlockTruths$Summary" "size" "I" ∈ WG := wt_1 (i := 58) rfl rfl
theorem mw_114 : Cond.fieldLink RX6 35 "BlockTruths$Summary" "lost" "Z" ∈ WG := wt_1 (i := 59) rfl rfl
theorem mw_115 : Cond.fieldLink RX8 117 "BlockTruths$Summary" "lost" "Z" ∈ WG := wt_1 (i := 60) rfl rfl
theorem mw_116 : Cond.fieldLink RX6 9 "BlockTruths$Summary" "numbers" "[I" ∈ WG := wt_1 (i := 61) rfl rfl
theorem mw_117 : Cond.fieldLink RX8 129 "BlockTruths$Summary" "numbers" "[I" ∈ WG := wt_1 (i := 62) rfl rfl
theorem mw_118 : Cond.fieldLink RX6 15 "BlockTruths$Summary" "counts" "[I" ∈ WG := wt_1 (i := 63) rfl rfl
theorem mw_119 : Cond.fieldLink RX8 132 "BlockTruths$Summary" "counts" "[I" ∈ WG := wt_1 (i := 64) rfl rfl
theorem mw_136 : Cond.fieldLink RX0 27 "BlockTruths$Block" "rows" "I" ∈ WG := wt_1 (i := 81) rfl rfl
theorem mw_137 : Cond.fieldLink RX5 18 "BlockTruths$Block" "rows" "I" ∈ WG := wt_1 (i := 82) rfl rfl
theorem mw_138 : Cond.fieldLink RX2 84 "BlockTruths$Block" "rows" "I" ∈ WG := wt_1 (i := 83) rfl rfl
theorem mw_139 : Cond.fieldLink RX8 156 "BlockTruths$Block" "rows" "I" ∈ WG := wt_1 (i := 84) rfl rfl
theorem mw_140 : Cond.fieldLink RX0 11 "BlockTruths$Block" "cells" "[[I" ∈ WG := wt_1 (i := 85) rfl rfl
theorem mw_141 : Cond.fieldLink RX8 97 "BlockTruths$Block" "cells" "[[I" ∈ WG := wt_1 (i := 86) rfl rfl
theorem mw_142 : Cond.fieldLink RX0 18 "BlockTruths$Block" "summaries" "[LBlockTruths$Summary;" ∈ WG := wt_1 (i := 87) rfl rfl
theorem mw_143 : Cond.fieldLink RX2 73 "BlockTruths$Block" "summaries" "[LBlockTruths$Summary;" ∈ WG := wt_1 (i := 88) rfl rfl
theorem mw_144 : Cond.fieldLink RX8 101 "BlockTruths$Block" "summaries" "[LBlockTruths$Summary;" ∈ WG := wt_1 (i := 89) rfl rfl
theorem mw_145 : Cond.fieldLink RX0 23 "BlockTruths$Block" "fresh" "LBlockTruths$Summary;" ∈ WG := wt_1 (i := 90) rfl rfl
theorem mw_155 : Cond.fieldLink RX5 11 "BlockTruths$Store" "blocks" "[LBlockTruths$Block;" ∈ WG := wt_1 (i := 100) rfl rfl
theorem mw_156 : Cond.fieldLink RX8 71 "BlockTruths$Store" "blocks" "[LBlockTruths$Block;" ∈ WG := wt_1 (i := 101) rfl rfl
theorem mw_161 : Cond.classLink RX8 20 RX1 ∈ WG := wt_1 (i := 106) rfl rfl
theorem mw_162 : Cond.instantiable RX1 9 ∈ WG := wt_1 (i := 107) rfl rfl
theorem mw_163 : Cond.methodLink RX8 22 yX1_init ∈ WG := wt_1 (i := 108) rfl rfl
theorem mw_164 : Cond.instanceMethod yX1_init ∈ WG := wt_1 (i := 109) rfl rfl
theorem mw_165 : Cond.code yX1_init cX1_init 1 none ∈ WG := wt_1 (i := 110) rfl rfl
theorem mw_166 : Cond.methodLink RX1 3 objectInit ∈ WG := wt_1 (i := 111) rfl rfl
theorem mw_167 : Cond.methodLink RX1 30 yX1_clear ∈ WG := wt_1 (i := 112) rfl rfl
theorem mw_168 : Cond.instanceMethod yX1_clear ∈ WG := wt_1 (i := 113) rfl rfl
theorem mw_169 : Cond.selects RX1 yX1_clear yX1_clear ∈ WG := wt_1 (i := 114) rfl rfl
theorem mw_170 : Cond.code yX1_clear cX1_clear 1 none ∈ WG := wt_1 (i := 115) rfl rfl
theorem mw_171 : Cond.constant RX1 40 (-2000000) ∈ WG := wt_1 (i := 116) rfl rfl
theorem mw_172 : Cond.methodLink RX1 44 yX1_await ∈ WG := wt_1 (i := 117) rfl rfl
theorem mw_174 : Cond.instanceMethod yX1_await ∈ WG := wt_1 (i := 119) rfl rfl
theorem mw_175 : Cond.code yX1_await cX1_await 2 none ∈ WG := wt_1 (i := 120) rfl rfl
theorem mw_176 : Cond.fieldLink RX1 33 "BlockTruths$Question" "size" "I" ∈ WG := wt_1 (i := 121) rfl rfl
theorem mw_177 : Cond.fieldLink RX3 19 "BlockTruths$Question" "size" "I" ∈ WG := wt_1 (i := 122) rfl rfl
theorem mw_178 : Cond.fieldLink RX2 25 "BlockTruths$Question" "size" "I" ∈ WG := wt_1 (i := 123) rfl rfl
theorem mw_179 : Cond.fieldLink RX8 137 "BlockTruths$Question" "size" "I" ∈ WG := wt_1 (i := 124) rfl rfl
theorem mw_180 : Cond.fieldLink RX1 9 "BlockTruths$Question" "signs" "[I" ∈ WG := wt_1 (i := 125) rfl rfl
theorem mw_181 : Cond.fieldLink RX3 35 "BlockTruths$Question" "signs" "[I" ∈ WG := wt_1 (i := 126) rfl rfl
theorem mw_182 : Cond.fieldLink RX2 45 "BlockTruths$Question" "signs" "[I" ∈ WG := wt_1 (i := 127) rfl rfl
theorem mw_183 : Cond.fieldLink RX1 15 "BlockTruths$Question" "roles" "[I" ∈ WG := wt_1 (i := 128) rfl rfl
theorem mw_184 : Cond.fieldLink RX3 25 "BlockTruths$Question" "roles" "[I" ∈ WG := wt_1 (i := 129) rfl rfl
theorem mw_185 : Cond.fieldLink RX2 31 "BlockTruths$Question" "roles" "[I" ∈ WG := wt_1 (i := 130) rfl rfl
theorem mw_186 : Cond.fieldLink RX8 159 "BlockTruths$Question" "roles" "[I" ∈ WG := wt_1 (i := 131) rfl rfl
theorem mw_187 : Cond.fieldLink RX1 18 "BlockTruths$Question" "seconds" "[I" ∈ WG := wt_1 (i := 132) rfl rfl
theorem mw_188 : Cond.fieldLink RX2 55 "BlockTruths$Question" "seconds" "[I" ∈ WG := wt_1 (i := 133) rfl rfl
theorem mw_189 : Cond.fieldLink RX3 46 "BlockTruths$Question" "seconds" "[I" ∈ WG := wt_1 (i := 134) rfl rfl
theorem mw_190 : Cond.fieldLink RX1 21 "BlockTruths$Question" "numbers" "[I" ∈ WG := wt_1 (i := 135) rfl rfl
theorem mw_191 : Cond.fieldLink RX3 64 "BlockTruths$Question" "numbers" "[I" ∈ WG := wt_1 (i := 136) rfl rfl
theorem mw_192 : Cond.fieldLink RX2 123 "BlockTruths$Question" "numbers" "[I" ∈ WG := wt_1 (i := 137) rfl rfl
theorem mw_193 : Cond.fieldLink RX1 24 "BlockTruths$Question" "ends" "[I" ∈ WG := wt_1 (i := 138) rfl rfl
theorem mw_194 : Cond.fieldLink RX1 27 "BlockTruths$Question" "awaited" "[I" ∈ WG := wt_1 (i := 139) rfl rfl
theorem mw_195 : Cond.fieldLink RX1 37 "BlockTruths$Question" "depth" "I" ∈ WG := wt_1 (i := 140) rfl rfl
theorem mw_196 : Cond.fieldLink RX1 41 "BlockTruths$Question" "wrongPlace" "I" ∈ WG := wt_1 (i := 141) rfl rfl
theorem mw_216 : Cond.classLink RX8 27 RX3 ∈ WG := wt_1 (i := 161) rfl rfl
theorem mw_217 : Cond.instantiable RX3 2 ∈ WG := wt_1 (i := 162) rfl rfl
theorem mw_218 : Cond.methodLink RX8 29 yX3_init ∈ WG := wt_1 (i := 163) rfl rfl
theorem mw_219 : Cond.instanceMethod yX3_init ∈ WG := wt_1 (i := 164) rfl rfl
theorem mw_220 : Cond.code yX3_init cX3_init 2 none ∈ WG := wt_1 (i := 165) rfl rfl
theorem mw_221 : Cond.methodLink RX3 3 objectInit ∈ WG := wt_1 (i := 166) rfl rfl
theorem mw_222 : Cond.fieldLink RX3 9 "BlockTruths$RowJudge" "question" "LBlockTruths$Question;" ∈ WG := wt_1 (i := 167) rfl rfl
theorem mw_223 : Cond.fieldLink RX3 15 "BlockTruths$RowJudge" "values" "[I" ∈ WG := wt_1 (i := 168) rfl rfl
theorem mw_229 : Cond.classLink RX8 36 RX2 ∈ WG := wt_1 (i := 174) rfl rfl
theorem mw_230 : Cond.instantiable RX2 4 ∈ WG := wt_1 (i := 175) rfl rfl
theorem mw_231 : Cond.methodLink RX8 38 yX2_init ∈ WG := wt_1 (i := 176) rfl rfl
theorem mw_232 : Cond.instanceMethod yX2_init ∈ WG := wt_1 (i := 177) rfl rfl
theorem mw_233 : Cond.code yX2_init cX2_init 2 none ∈ WG := wt_1 (i := 178) rfl rfl
theorem mw_234 : Cond.methodLink RX2 3 objectInit ∈ WG := wt_1 (i := 179) rfl rfl
theorem mw_235 : Cond.fieldLink RX2 15 "BlockTruths$RangeJudge" "kinds" "[I" ∈ WG := wt_1 (i := 180) rfl rfl
theorem mw_236 : Cond.fieldLink RX8 166 "BlockTruths$RangeJudge" "kinds" "[I" ∈ WG := wt_1 (i := 181) rfl rfl
theorem mw_237 : Cond.fieldLink RX2 19 "BlockTruths$RangeJudge" "lows" "[I" ∈ WG := wt_1 (i := 182) rfl rfl
theorem mw_238 : Cond.fieldLink RX8 169 "BlockTruths$RangeJudge" "lows" "[I" ∈ WG := wt_1 (i := 183) rfl rfl
theorem mw_239 : Cond.fieldLink RX2 22 "BlockTruths$RangeJudge" "highs" "[I" ∈ WG := wt_1 (i := 184) rfl rfl
theorem mw_240 : Cond.fieldLink RX8 172 "BlockTruths$RangeJudge" "highs" "[I" ∈ WG := wt_1 (i := 185) rfl rfl
theorem mw_241 : Cond.fieldLink RX2 9 "BlockTruths$RangeJudge" "question" "LBlockTruths$Question;" ∈ WG := wt_1 (i := 186) rfl rfl
theorem mw_251 : Cond.classLink RX8 50 RX4 ∈ WG := wt_1 (i := 196) rfl rfl
theorem mw_252 : Cond.instantiable RX4 2 ∈ WG := wt_1 (i := 197) rfl rfl
theorem mw_253 : Cond.methodLink RX8 52 yX4_init ∈ WG := wt_1 (i := 198) rfl rfl
theorem mw_254 : Cond.instanceMethod yX4_init ∈ WG := wt_1 (i := 199) rfl rfl
theorem mw_255 : Cond.code yX4_init cX4_init 1 none ∈ WG := wt_1 (i := 200) rfl rfl
theorem mw_256 : Cond.methodLink RX4 3 objectInit ∈ WG := wt_1 (i := 201) rfl rfl
theorem mw_257 : Cond.fieldLink RX4 15 "BlockTruths$RowKeys" "size" "I" ∈ WG := wt_1 (i := 202) rfl rfl
theorem mw_258 : Cond.fieldLink RX8 242 "BlockTruths$RowKeys" "size" "I" ∈ WG := wt_1 (i := 203) rfl rfl
theorem mw_259 : Cond.fieldLink RX4 9 "BlockTruths$RowKeys" "keys" "[J" ∈ WG := wt_1 (i := 204) rfl rfl
theorem mw_266 : Cond.classLink RX8 57 RX7 ∈ WG := wt_1 (i := 211) rfl rfl
theorem mw_267 : Cond.instantiable RX7 4 ∈ WG := wt_1 (i := 212) rfl rfl
theorem mw_268 : Cond.methodLink RX8 59 yX7_init ∈ WG := wt_1 (i := 213) rfl rfl
theorem mw_269 : Cond.instanceMethod yX7_init ∈ WG := wt_1 (i := 214) rfl rfl
theorem mw_270 : Cond.code yX7_init cX7_init 1 none ∈ WG := wt_1 (i := 215) rfl rfl
theorem mw_271 : Cond.methodLink RX7 3 objectInit ∈ WG := wt_1 (i := 216) rfl rfl
theorem mw_272 : Cond.methodLink RX7 9 yX7_clear ∈ WG := wt_1 (i := 217) rfl rfl
theorem mw_273 : Cond.instanceMethod yX7_clear ∈ WG := wt_1 (i := 218) rfl rfl
theorem mw_274 : Cond.selects RX7 yX7_clear yX7_clear ∈ WG := wt_1 (i := 219) rfl rfl
theorem mw_275 : Cond.code yX7_clear cX7_clear 1 none ∈ WG := wt_1 (i := 220) rfl rfl
theorem mw_276 : Cond.constant RX7 14 (-2000000) ∈ WG := wt_1 (i := 221) rfl rfl
theorem mw_277 : Cond.fieldLink RX7 15 "BlockTruths$Tally" "least" "I" ∈ WG := wt_1 (i := 222) rfl rfl
theorem mw_278 : Cond.fieldLink RX8 204 "BlockTruths$Tally" "least" "I" ∈ WG := wt_1 (i := 223) rfl rfl
theorem mw_279 : Cond.fieldLink RX7 19 "BlockTruths$Tally" "greatest" "I" ∈ WG := wt_1 (i := 224) rfl rfl
theorem mw_280 : Cond.fieldLink RX8 205 "BlockTruths$Tally" "greatest" "I" ∈ WG := wt_1 (i := 225) rfl rfl
theorem mw_281 : Cond.fieldLink RX7 22 "BlockTruths$Tally" "sum" "I" ∈ WG := wt_1 (i := 226) rfl rfl
theorem mw_282 : Cond.fieldLink RX8 206 "BlockTruths$Tally" "sum" "I" ∈ WG := wt_1 (i := 227) rfl rfl
theorem mw_283 : Cond.fieldLink RX7 25 "BlockTruths$Tally" "missing" "I" ∈ WG := wt_1 (i := 228) rfl rfl
theorem mw_284 : Cond.fieldLink RX8 209 "BlockTruths$Tally" "missing" "I" ∈ WG := wt_1 (i := 229) rfl rfl
theorem mw_294 : Cond.fieldLink RX8 12 "BlockTruths" "store" "LBlockTruths$Store;" ∈ WG := wt_1 (i := 239) rfl rfl
theorem mw_295 : Cond.fieldLink RX8 16 "BlockTruths" "images" "[LBlockTruths$Store;" ∈ WG := wt_2 (i := 0) rfl rfl
theorem mw_296 : Cond.fieldLink RX8 23 "BlockTruths" "question" "LBlockTruths$Question;" ∈ WG := wt_2 (i := 1) rfl rfl
theorem mw_297 : Cond.fieldLink RX8 32 "BlockTruths" "rowJudge" "LBlockTruths$RowJudge;" ∈ WG := wt_2 (i := 2) rfl rfl
theorem mw_298 : Cond.fieldLink RX8 39 "BlockTruths" "rangeJudge" "LBlockTruths$RangeJudge;" ∈ WG := wt_2 (i := 3) rfl rfl
theorem mw_299 : Cond.fieldLink RX8 43 "BlockTruths" "listedRow" "[I" ∈ WG := wt_2 (i := 4) rfl rfl
theorem mw_300 : Cond.fieldLink RX8 47 "BlockTruths" "chances" "[I" ∈ WG := wt_2 (i := 5) rfl rfl
theorem mw_301 : Cond.fieldLink RX8 53 "BlockTruths" "keys" "LBlockTruths$RowKeys;" ∈ WG := wt_2 (i := 6) rfl rfl
theorem mw_302 : Cond.fieldLink RX8 60 "BlockTruths" "tally" "LBlockTruths$Tally;" ∈ WG := wt_2 (i := 7) rfl rfl
theorem mw_322 : Cond.methodLink RL 13 yX8_add ∈ WG := wt_2 (i := 27) rfl rfl
theorem mw_323 : Cond.instanceMethod yX8_add ∈ WG := wt_2 (i := 28) rfl rfl
theorem mw_324 : Cond.selects RX8 yX8_add yX8_add ∈ WG := wt_2 (i := 29) rfl rfl
theorem mw_325 : Cond.code yX8_add cX8_add 6 (some .int) ∈ WG := wt_2 (i := 30) rfl rfl
theorem mw_326 : Cond.methodLink RX8 64 yX8_isBlock ∈ WG := wt_2 (i := 31) rfl rfl
theorem mw_327 : Cond.static yX8_isBlock ∈ WG := wt_2 (i := 32) rfl rfl
theorem mw_328 : Cond.code yX8_isBlock cX8_isBlock 1 (some .boolean) ∈ WG := wt_2 (i := 33) rfl rfl
theorem mw_329 : Cond.methodLink RX8 68 yX8_isEntry ∈ WG := wt_2 (i := 34) rfl rfl
theorem mw_330 : Cond.static yX8_isEntry ∈ WG := wt_2 (i := 35) rfl rfl
theorem mw_331 : Cond.code yX8_isEntry cX8_isEntry 1 (some .boolean) ∈ WG := wt_2 (i := 36) rfl rfl
theorem mw_332 : Cond.methodLink RX8 75 yX0_append ∈ WG := wt_2 (i := 37) rfl rfl
theorem mw_333 : Cond.instanceMethod yX0_append ∈ WG := wt_2 (i := 38) rfl rfl
theorem mw_334 : Cond.selects RX0 yX0_append yX0_append ∈ WG := wt_2 (i := 39) rfl rfl
theorem mw_335 : Cond.code yX0_append cX0_append 7 (some .int) ∈ WG := wt_2 (i := 40) rfl rfl
theorem mw_336 : Cond.methodLink RX0 31 yX6_come ∈ WG := wt_2 (i := 41) rfl rfl
theorem mw_337 : Cond.instanceMethod yX6_come ∈ WG := wt_2 (i := 42) rfl rfl
theorem mw_338 : Cond.selects RX6 yX6_come yX6_come ∈ WG := wt_2 (i := 43) rfl rfl
theorem mw_339 : Cond.code yX6_come cX6_come 2 none ∈ WG := wt_2 (i := 44) rfl rfl
theorem mw_340 : Cond.methodLink RX6 39 Lib.Math.min.name ∈ WG := wt_2 (i := 45) rfl rfl
theorem mw_341 : Cond.static Lib.Math.min.name ∈ WG := wt_2 (i := 46) rfl rfl
theorem mw_342 : Cond.code Lib.Math.min.name Lib.Math.min.code 2 (some .int) ∈ WG := wt_2 (i := 47) rfl rfl
theorem mw_343 : Cond.methodLink RX6 45 Lib.Math.max.name ∈ WG := wt_2 (i := 48) rfl rfl
theorem mw_344 : Cond.static Lib.Math.max.name ∈ WG := wt_2 (i := 49) rfl rfl
theorem mw_345 : Cond.code Lib.Math.max.name Lib.Math.max.code 2 (some .int) ∈ WG := wt_2 (i := 50) rfl rfl
theorem mw_346 : Cond.methodLink RX6 48 yX6_enlist ∈ WG := wt_2 (i := 51) rfl rfl
theorem mw_348 : Cond.instanceMethod yX6_enlist ∈ WG := wt_2 (i := 53) rfl rfl
theorem mw_349 : Cond.code yX6_enlist cX6_enlist 3 none ∈ WG := wt_2 (i := 54) rfl rfl
theorem mw_350 : Cond.methodLink RX6 52 yX6_placeOf ∈ WG := wt_2 (i := 55) rfl rfl
theorem mw_352 : Cond.instanceMethod yX6_placeOf ∈ WG := wt_2 (i := 57) rfl rfl
theorem mw_353 : Cond.code yX6_placeOf cX6_placeOf 3 (some .int) ∈ WG := wt_2 (i := 58) rfl rfl
theorem mw_354 : Cond.methodLink RL 18 yX8_drop ∈ WG := wt_2 (i := 59) rfl rfl
theorem mw_355 : Cond.instanceMethod yX8_drop ∈ WG := wt_2 (i := 60) rfl rfl
theorem mw_356 : Cond.selects RX8 yX8_drop yX8_drop ∈ WG := wt_2 (i := 61) rfl rfl
theorem mw_357 : Cond.code yX8_drop cX8_drop 3 (some .int) ∈ WG := wt_2 (i := 62) rfl rfl
theorem mw_358 : Cond.methodLink RX8 81 yX8_isRow ∈ WG := wt_2 (i := 63) rfl rfl
theorem mw_360 : Cond.instanceMethod yX8_isRow ∈ WG := wt_2 (i := 65) rfl rfl
theorem mw_361 : Cond.code yX8_isRow cX8_isRow 3 (some .boolean) ∈ WG := wt_2 (i := 66) rfl rfl
theorem mw_362 : Cond.methodLink RX8 85 yX0_remove ∈ WG := wt_2 (i := 67) rfl rfl
theorem mw_363 : Cond.instanceMethod yX0_remove ∈ WG := wt_2 (i := 68) rfl rfl
theorem mw_364 : Cond.selects RX0 yX0_remove yX0_remove ∈ WG := wt_2 (i := 69) rfl rfl
theorem mw_365 : Cond.code yX0_remove cX0_remove 3 (some .int) ∈ WG := wt_2 (i := 70) rfl rfl
theorem mw_366 : Cond.methodLink RX0 35 yX6_leave ∈ WG := wt_2 (i := 71) rfl rfl
theorem mw_367 : Cond.instanceMethod yX6_leave ∈ WG := wt_2 (i := 72) rfl rfl
theorem mw_368 : Cond.selects RX6 yX6_leave yX6_leave ∈ WG := wt_2 (i := 73) rfl rfl
theorem mw_369 : Cond.code yX6_leave cX6_leave 3 none ∈ WG := wt_2 (i := 74) rfl rfl
theorem mw_370 : Cond.methodLink RX0 38 arraycopyName ∈ WG := wt_2 (i := 75) rfl rfl
theorem mw_371 : Cond.static arraycopyName ∈ WG := wt_2 (i := 76) rfl rfl
theorem mw_372 : Cond.native arraycopyName ∈ WG := wt_2 (i := 77) rfl rfl
theorem mw_373 : Cond.methodLink RL 23 yX8_anew ∈ WG := wt_2 (i := 78) rfl rfl
theorem mw_374 : Cond.instanceMethod yX8_anew ∈ WG := wt_2 (i := 79) rfl rfl
theorem mw_375 : Cond.selects RX8 yX8_anew yX8_anew ∈ WG := wt_2 (i := 80) rfl rfl
theorem mw_376 : Cond.code yX8_anew cX8_anew 2 (some .int) ∈ WG := wt_2 (i := 81) rfl rfl
theorem mw_377 : Cond.methodLink RX8 89 yX0_renew ∈ WG := wt_2 (i := 82) rfl rfl
theorem mw_378 : Cond.instanceMethod yX0_renew ∈ WG := wt_2 (i := 83) rfl rfl
theorem mw_379 : Cond.selects RX0 yX0_renew yX0_renew ∈ WG := wt_2 (i := 84) rfl rfl
theorem mw_380 : Cond.code yX0_renew cX0_renew 3 (some .int) ∈ WG := wt_2 (i := 85) rfl rfl
theorem mw_381 : Cond.methodLink RX0 54 yX0_isStale ∈ WG := wt_2 (i := 86) rfl rfl
theorem mw_382 : Cond.instanceMethod yX0_isStale ∈ WG := wt_2 (i := 87) rfl rfl
theorem mw_383 : Cond.selects RX0 yX0_isStale yX0_isStale ∈ WG := wt_2 (i := 88) rfl rfl
theorem mw_384 : Cond.code yX0_isStale cX0_isStale 2 (some .boolean) ∈ WG := wt_2 (i := 89) rfl rfl
theorem mw_385 : Cond.methodLink RX0 47 yX0_makeFresh ∈ WG := wt_2 (i := 90) rfl rfl
theorem mw_387 : Cond.instanceMethod yX0_makeFresh ∈ WG := wt_2 (i := 92) rfl rfl
theorem mw_388 : Cond.code yX0_makeFresh cX0_makeFresh 3 none ∈ WG := wt_2 (i := 93) rfl rfl
theorem mw_389 : Cond.methodLink RX0 44 yX6_clear ∈ WG := wt_2 (i := 94) rfl rfl
theorem mw_390 : Cond.methodLink RX0 50 yX6_differsFrom ∈ WG := wt_2 (i := 95) rfl rfl
theorem mw_391 : Cond.instanceMethod yX6_differsFrom ∈ WG := wt_2 (i := 96) rfl rfl
theorem mw_392 : Cond.selects RX6 yX6_differsFrom yX6_differsFrom ∈ WG := wt_2 (i := 97) rfl rfl
theorem mw_393 : Cond.code yX6_differsFrom cX6_differsFrom 3 (some .boolean) ∈ WG := wt_2 (i := 98) rfl rfl
theorem mw_394 : Cond.methodLink RX0 58 yX6_copyFrom ∈ WG := wt_2 (i := 99) rfl rfl
theorem mw_395 : Cond.instanceMethod yX6_copyFrom ∈ WG := wt_2 (i := 100) rfl rfl
theorem mw_396 : Cond.selects RX6 yX6_copyFrom yX6_copyFrom ∈ WG := wt_2 (i := 101) rfl rfl
theorem mw_397 : Cond.code yX6_copyFrom cX6_copyFrom 2 none ∈ WG := wt_2 (i := 102) rfl rfl
theorem mw_398 : Cond.methodLink RX6 56 arraycopyName ∈ WG := wt_2 (i := 103) rfl rfl
theorem mw_399 : Cond.methodLink RL 28 yX8_cell ∈ WG := wt_2 (i := 104) rfl rfl
theorem mw_400 : Cond.instanceMethod yX8_cell ∈ WG := wt_2 (i := 105) rfl rfl
theorem mw_401 : Cond.selects RX8 yX8_cell yX8_cell ∈ WG := wt_2 (i := 106) rfl rfl
theorem mw_402 : Cond.code yX8_cell cX8_cell 4 (some .int) ∈ WG := wt_2 (i := 107) rfl rfl
theorem mw_403 : Cond.methodLink RX8 93 yX8_isColumn ∈ WG := wt_2 (i := 108) rfl rfl
theorem mw_404 : Cond.static yX8_isColumn ∈ WG := wt_2 (i := 109) rfl rfl
theorem mw_405 : Cond.code yX8_isColumn cX8_isColumn 1 (some .boolean) ∈ WG := wt_2 (i := 110) rfl rfl
theorem mw_406 : Cond.constant RX8 96 (-3000001) ∈ WG := wt_2 (i := 111) rfl rfl
theorem mw_407 : Cond.methodLink RL 33 yX8_summary ∈ WG := wt_2 (i := 112) rfl rfl
theorem mw_408 : Cond.instanceMethod yX8_summary ∈ WG := wt_2 (i := 113) rfl rfl
theorem mw_409 : Cond.selects RX8 yX8_summary yX8_summary ∈ WG := wt_2 (i := 114) rfl rfl
theorem mw_410 : Cond.code yX8_summary cX8_summary 5 (some .int) ∈ WG := wt_2 (i := 115) rfl rfl
theorem mw_411 : Cond.constant RX8 121 (-2000000) ∈ WG := wt_2 (i := 116) rfl rfl
theorem mw_412 : Cond.methodLink RX8 125 yX0_isStale ∈ WG := wt_2 (i := 117) rfl rfl
theorem mw_413 : Cond.constant RX8 128 (-3000002) ∈ WG := wt_2 (i := 118) rfl rfl
theorem mw_414 : Cond.methodLink RL 37 yX8_listed ∈ WG := wt_2 (i := 119) rfl rfl
theorem mw_415 : Cond.instanceMethod yX8_listed ∈ WG := wt_2 (i := 120) rfl rfl
theorem mw_416 : Cond.selects RX8 yX8_listed yX8_listed ∈ WG := wt_2 (i := 121) rfl rfl
theorem mw_417 : Cond.code yX8_listed cX8_listed 6 (some .int) ∈ WG := wt_2 (i := 122) rfl rfl
theorem mw_418 : Cond.methodLink RL 42 yX8_say ∈ WG := wt_2 (i := 123) rfl rfl
theorem mw_419 : Cond.instanceMethod yX8_say ∈ WG := wt_2 (i := 124) rfl rfl
theorem mw_420 : Cond.selects RX8 yX8_say yX8_say ∈ WG := wt_2 (i := 125) rfl rfl
theorem mw_421 : Cond.code yX8_say cX8_say 2 (some .int) ∈ WG := wt_2 (i := 126) rfl rfl
theorem mw_422 : Cond.methodLink RX8 135 yX1_append ∈ WG := wt_2 (i := 127) rfl rfl
theorem mw_423 : Cond.instanceMethod yX1_append ∈ WG := wt_2 (i := 128) rfl rfl
theorem mw_424 : Cond.selects RX1 yX1_append yX1_append ∈ WG := wt_2 (i := 129) rfl rfl
theorem mw_425 : Cond.code yX1_append cX1_append 2 (some .int) ∈ WG := wt_2 (i := 130) rfl rfl
theorem mw_426 : Cond.methodLink RX1 48 yX1_canStand ∈ WG := wt_2 (i := 131) rfl rfl
theorem mw_428 : Cond.instanceMethod yX1_canStand ∈ WG := wt_2 (i := 133) rfl rfl
theorem mw_429 : Cond.code yX1_canStand cX1_canStand 3 (some .boolean) ∈ WG := wt_2 (i := 134) rfl rfl
theorem mw_430 : Cond.methodLink RX1 59 yX1_beginsTruth ∈ WG := wt_2 (i := 135) rfl rfl
theorem mw_432 : Cond.instanceMethod yX1_beginsTruth ∈ WG := wt_2 (i := 137) rfl rfl
theorem mw_433 : Cond.code yX1_beginsTruth cX1_beginsTruth 2 (some .boolean) ∈ WG := wt_2 (i := 138) rfl rfl
theorem mw_434 : Cond.methodLink RX1 62 yX1_beginsTerm ∈ WG := wt_2 (i := 139) rfl rfl
theorem mw_436 : Cond.instanceMethod yX1_beginsTerm ∈ WG := wt_2 (i := 141) rfl rfl
theorem mw_437 : Cond.code yX1_beginsTerm cX1_beginsTerm 2 (some .boolean) ∈ WG := wt_2 (i := 142) rfl rfl
theorem mw_439 : Cond.static yX8_isLetter ∈ WG := wt_2 (i := 144) rfl rfl
theorem mw_440 : Cond.code yX8_isLetter cX8_isLetter 1 (some .boolean) ∈ WG := wt_2 (i := 145) rfl rfl
theorem mw_442 : Cond.static yX8_isFigure ∈ WG := wt_2 (i := 147) rfl rfl
theorem mw_443 : Cond.code yX8_isFigure cX8_isFigure 1 (some .boolean) ∈ WG := wt_2 (i := 148) rfl rfl
theorem mw_444 : Cond.methodLink RX1 52 yX1_isFaulty ∈ WG := wt_2 (i := 149) rfl rfl
theorem mw_445 : Cond.instanceMethod yX1_isFaulty ∈ WG := wt_2 (i := 150) rfl rfl
theorem mw_446 : Cond.selects RX1 yX1_isFaulty yX1_isFaulty ∈ WG := wt_2 (i := 151) rfl rfl
theorem mw_447 : Cond.code yX1_isFaulty cX1_isFaulty 1 (some .boolean) ∈ WG := wt_2 (i := 152) rfl rfl
theorem mw_448 : Cond.methodLink RX1 56 yX1_findParts ∈ WG := wt_2 (i := 153) rfl rfl
theorem mw_450 : Cond.instanceMethod yX1_findParts ∈ WG := wt_2 (i := 155) rfl rfl
theorem mw_451 : Cond.code yX1_findParts cX1_findParts 3 none ∈ WG := wt_2 (i := 156) rfl rfl
theorem mw_453 : Cond.static yX8_at ∈ WG := wt_2 (i := 158) rfl rfl
theorem mw_454 : Cond.code yX8_at cX8_at 2 (some .int) ∈ WG := wt_2 (i := 159) rfl rfl
theorem mw_455 : Cond.methodLink RX1 75 yX1_numberAt ∈ WG := wt_2 (i := 160) rfl rfl
theorem mw_457 : Cond.instanceMethod yX1_numberAt ∈ WG := wt_2 (i := 162) rfl rfl
theorem mw_458 : Cond.code yX1_numberAt cX1_numberAt 2 (some .int) ∈ WG := wt_2 (i := 163) rfl rfl
theorem mw_459 : Cond.methodLink RX1 82 yX1_figureAt ∈ WG := wt_2 (i := 164) rfl rfl
theorem mw_461 : Cond.instanceMethod yX1_figureAt ∈ WG := wt_2 (i := 166) rfl rfl
theorem mw_462 : Cond.code yX1_figureAt cX1_figureAt 3 (some .int) ∈ WG := wt_2 (i := 167) rfl rfl
theorem mw_464 : Cond.static yX8_hasSecond ∈ WG := wt_2 (i := 169) rfl rfl
theorem mw_465 : Cond.code yX8_hasSecond cX8_hasSecond 1 (some .boolean) ∈ WG := wt_2 (i := 170) rfl rfl
theorem mw_466 : Cond.methodLink RX8 246 yX8_isSum ∈ WG := wt_2 (i := 171) rfl rfl
theorem mw_467 : Cond.static yX8_isSum ∈ WG := wt_2 (i := 172) rfl rfl
theorem mw_468 : Cond.code yX8_isSum cX8_isSum 1 (some .boolean) ∈ WG := wt_2 (i := 173) rfl rfl
theorem mw_469 : Cond.methodLink RL 46 yX8_wipe ∈ WG := wt_2 (i := 174) rfl rfl
theorem mw_470 : Cond.instanceMethod yX8_wipe ∈ WG := wt_2 (i := 175) rfl rfl
theorem mw_471 : Cond.selects RX8 yX8_wipe yX8_wipe ∈ WG := wt_2 (i := 176) rfl rfl
theorem mw_472 : Cond.code yX8_wipe cX8_wipe 2 (some .int) ∈ WG := wt_2 (i := 177) rfl rfl
theorem mw_473 : Cond.methodLink RX8 138 yX1_clear ∈ WG := wt_2 (i := 178) rfl rfl
theorem mw_474 : Cond.methodLink RL 51 yX8_fault ∈ WG := wt_2 (i := 179) rfl rfl
theorem mw_475 : Cond.instanceMethod yX8_fault ∈ WG := wt_2 (i := 180) rfl rfl
theorem mw_476 : Cond.selects RX8 yX8_fault yX8_fault ∈ WG := wt_2 (i := 181) rfl rfl
theorem mw_477 : Cond.code yX8_fault cX8_fault 1 (some .int) ∈ WG := wt_2 (i := 182) rfl rfl
theorem mw_478 : Cond.methodLink RX8 141 yX1_faultPlace ∈ WG := wt_2 (i := 183) rfl rfl
theorem mw_479 : Cond.instanceMethod yX1_faultPlace ∈ WG := wt_2 (i := 184) rfl rfl
theorem mw_480 : Cond.selects RX1 yX1_faultPlace yX1_faultPlace ∈ WG := wt_2 (i := 185) rfl rfl
theorem mw_481 : Cond.code yX1_faultPlace cX1_faultPlace 1 (some .int) ∈ WG := wt_2 (i := 186) rfl rfl
theorem mw_482 : Cond.methodLink RL 55 yX8_truth ∈ WG := wt_2 (i := 187) rfl rfl
theorem mw_483 : Cond.instanceMethod yX8_truth ∈ WG := wt_2 (i := 188) rfl rfl
theorem mw_484 : Cond.selects RX8 yX8_truth yX8_truth ∈ WG := wt_2 (i := 189) rfl rfl
theorem mw_485 : Cond.code yX8_truth cX8_truth 3 (some .int) ∈ WG := wt_2 (i := 190) rfl rfl
theorem mw_486 : Cond.methodLink RX8 144 yX1_isFaulty ∈ WG := wt_2 (i := 191) rfl rfl
theorem mw_487 : Cond.methodLink RX8 148 yX3_judge ∈ WG := wt_2 (i := 192) rfl rfl
theorem mw_488 : Cond.instanceMethod yX3_judge ∈ WG := wt_2 (i := 193) rfl rfl
theorem mw_489 : Cond.selects RX3 yX3_judge yX3_judge ∈ WG := wt_2 (i := 194) rfl rfl
theorem mw_490 : Cond.code yX3_judge cX3_judge 3 (some .int) ∈ WG := wt_2 (i := 195) rfl rfl
theorem mw_491 : Cond.methodLink RX3 28 yX3_truthAt ∈ WG := wt_2 (i := 196) rfl rfl
theorem mw_493 : Cond.instanceMethod yX3_truthAt ∈ WG := wt_2 (i := 198) rfl rfl
theorem mw_494 : Cond.code yX3_truthAt cX3_truthAt 7 (some .int) ∈ WG := wt_2 (i := 199) rfl rfl
theorem mw_497 : Cond.static yX8_notOf ∈ WG := wt_2 (i := 202) rfl rfl
theorem mw_498 : Cond.code yX8_notOf cX8_notOf 1 (some .int) ∈ WG := wt_2 (i := 203) rfl rfl
theorem mw_500 : Cond.static yX8_bothOf ∈ WG := wt_2 (i := 205) rfl rfl
theorem mw_501 : Cond.code yX8_bothOf cX8_bothOf 2 (some .int) ∈ WG := wt_2 (i := 206) rfl rfl
theorem mw_503 : Cond.static yX8_eitherOf ∈ WG := wt_2 (i := 208) rfl rfl
theorem mw_504 : Cond.code yX8_eitherOf cX8_eitherOf 2 (some .int) ∈ WG := wt_2 (i := 209) rfl rfl
theorem mw_505 : Cond.constant RX3 56 (-2000000) ∈ WG := wt_2 (i := 210) rfl rfl
theorem mw_506 : Cond.methodLink RX3 32 yX3_termAt ∈ WG := wt_2 (i := 211) rfl rfl
theorem mw_508 : Cond.instanceMethod yX3_termAt ∈ WG := wt_2 (i := 213) rfl rfl
theorem mw_509 : Cond.code yX3_termAt cX3_termAt 6 (some .int) ∈ WG := wt_2 (i := 214) rfl rfl
theorem mw_513 : Cond.static yX8_sumOf ∈ WG := wt_2 (i := 218) rfl rfl
theorem mw_514 : Cond.code yX8_sumOf cX8_sumOf 5 (some .int) ∈ WG := wt_2 (i := 219) rfl rfl
theorem mw_515 : Cond.constantLong RX8 249 (-1000000) ∈ WG := wt_2 (i := 220) rfl rfl
theorem mw_516 : Cond.constant RX8 251 (-1000000) ∈ WG := wt_2 (i := 221) rfl rfl
theorem mw_517 : Cond.constantLong RX8 252 (1000000) ∈ WG := wt_2 (i := 222) rfl rfl
theorem mw_518 : Cond.constant RX8 254 (1000000) ∈ WG := wt_2 (i := 223) rfl rfl
theorem mw_519 : Cond.methodLink RL 59 yX8_range ∈ WG := wt_2 (i := 224) rfl rfl
theorem mw_520 : Cond.instanceMethod yX8_range ∈ WG := wt_2 (i := 225) rfl rfl
theorem mw_521 : Cond.selects RX8 yX8_range yX8_range ∈ WG := wt_2 (i := 226) rfl rfl
theorem mw_522 : Cond.code yX8_range cX8_range 4 (some .int) ∈ WG := wt_2 (i := 227) rfl rfl
theorem mw_523 : Cond.methodLink RX8 152 yX8_isPlace ∈ WG := wt_2 (i := 228) rfl rfl
theorem mw_525 : Cond.instanceMethod yX8_isPlace ∈ WG := wt_2 (i := 230) rfl rfl
theorem mw_526 : Cond.code yX8_isPlace cX8_isPlace 2 (some .boolean) ∈ WG := wt_2 (i := 231) rfl rfl
theorem mw_527 : Cond.constant RX8 155 (-3000005) ∈ WG := wt_2 (i := 232) rfl rfl
theorem mw_528 : Cond.constant RX8 162 (-3000003) ∈ WG := wt_2 (i := 233) rfl rfl
theorem mw_529 : Cond.methodLink RX8 163 yX2_judge ∈ WG := wt_2 (i := 234) rfl rfl
theorem mw_530 : Cond.instanceMethod yX2_judge ∈ WG := wt_2 (i := 235) rfl rfl
theorem mw_531 : Cond.selects RX2 yX2_judge yX2_judge ∈ WG := wt_2 (i := 236) rfl rfl
theorem mw_532 : Cond.code yX2_judge cX2_judge 3 none ∈ WG := wt_2 (i := 237) rfl rfl
theorem mw_533 : Cond.methodLink RX2 34 yX2_chancesAt ∈ WG := wt_2 (i := 238) rfl rfl
theorem mw_535 : Cond.instanceMethod yX2_chancesAt ∈ WG := wt_3 (i := 0) rfl rfl
theorem mw_536 : Cond.code yX2_chancesAt cX2_chancesAt 6 (some .int) ∈ WG := wt_3 (i := 1) rfl rfl
theorem mw_538 : Cond.methodLink RX2 52 yX2_missingChances ∈ WG := wt_3 (i := 3) rfl rfl
theorem mw_539 : Cond.static yX2_missingChances ∈ WG := wt_3 (i := 4) rfl rfl
theorem mw_540 : Cond.code yX2_missingChances cX2_missingChances 4 (some .int) ∈ WG := wt_3 (i := 5) rfl rfl
theorem mw_542 : Cond.methodLink RX2 58 yX2_comparedChances ∈ WG := wt_3 (i := 7) rfl rfl
theorem mw_544 : Cond.instanceMethod yX2_comparedChances ∈ WG := wt_3 (i := 9) rfl rfl
theorem mw_545 : Cond.code yX2_comparedChances cX2_comparedChances 14 (some .int) ∈ WG := wt_3 (i := 10) rfl rfl
theorem mw_546 : Cond.methodLink RX2 62 yX2_notChances ∈ WG := wt_3 (i := 11) rfl rfl
theorem mw_547 : Cond.static yX2_notChances ∈ WG := wt_3 (i := 12) rfl rfl
theorem mw_548 : Cond.code yX2_notChances cX2_notChances 3 (some .int) ∈ WG := wt_3 (i := 13) rfl rfl
theorem mw_550 : Cond.static yX8_chanceOf ∈ WG := wt_3 (i := 15) rfl rfl
theorem mw_551 : Cond.code yX8_chanceOf cX8_chanceOf 1 (some .int) ∈ WG := wt_3 (i := 16) rfl rfl
theorem mw_553 : Cond.methodLink RX2 66 yX2_joinedChances ∈ WG := wt_3 (i := 18) rfl rfl
theorem mw_554 : Cond.static yX2_joinedChances ∈ WG := wt_3 (i := 19) rfl rfl
theorem mw_555 : Cond.code yX2_joinedChances cX2_joinedChances 6 (some .int) ∈ WG := wt_3 (i := 20) rfl rfl
theorem mw_558 : Cond.methodLink RX2 38 yX2_kindAt ∈ WG := wt_3 (i := 23) rfl rfl
theorem mw_560 : Cond.instanceMethod yX2_kindAt ∈ WG := wt_3 (i := 25) rfl rfl
theorem mw_561 : Cond.code yX2_kindAt cX2_kindAt 6 (some .int) ∈ WG := wt_3 (i := 26) rfl rfl
theorem mw_565 : Cond.methodLink RX2 41 yX2_findBounds ∈ WG := wt_3 (i := 30) rfl rfl
theorem mw_567 : Cond.instanceMethod yX2_findBounds ∈ WG := wt_3 (i := 32) rfl rfl
theorem mw_568 : Cond.code yX2_findBounds cX2_findBounds 6 none ∈ WG := wt_3 (i := 33) rfl rfl
theorem mw_569 : Cond.constant RX2 109 (-2000000) ∈ WG := wt_3 (i := 34) rfl rfl
theorem mw_570 : Cond.methodLink RX2 110 yX2_setBounds ∈ WG := wt_3 (i := 35) rfl rfl
theorem mw_572 : Cond.instanceMethod yX2_setBounds ∈ WG := wt_3 (i := 37) rfl rfl
theorem mw_573 : Cond.code yX2_setBounds cX2_setBounds 4 none ∈ WG := wt_3 (i := 38) rfl rfl
theorem mw_574 : Cond.methodLink RX2 120 yX2_byteBounds ∈ WG := wt_3 (i := 39) rfl rfl
theorem mw_576 : Cond.instanceMethod yX2_byteBounds ∈ WG := wt_3 (i := 41) rfl rfl
theorem mw_577 : Cond.code yX2_byteBounds cX2_byteBounds 6 none ∈ WG := wt_3 (i := 42) rfl rfl
theorem mw_578 : Cond.methodLink RX2 126 yX2_leftOverBounds ∈ WG := wt_3 (i := 43) rfl rfl
theorem mw_580 : Cond.instanceMethod yX2_leftOverBounds ∈ WG := wt_3 (i := 45) rfl rfl
theorem mw_581 : Cond.code yX2_leftOverBounds cX2_leftOverBounds 8 none ∈ WG := wt_3 (i := 46) rfl rfl
theorem mw_582 : Cond.methodLink RX2 145 Lib.Math.max.name ∈ WG := wt_3 (i := 47) rfl rfl
theorem mw_583 : Cond.methodLink RX2 140 Lib.Math.min.name ∈ WG := wt_3 (i := 48) rfl rfl
theorem mw_584 : Cond.methodLink RX2 130 yX2_sumBounds ∈ WG := wt_3 (i := 49) rfl rfl
theorem mw_586 : Cond.instanceMethod yX2_sumBounds ∈ WG := wt_3 (i := 51) rfl rfl
theorem mw_587 : Cond.code yX2_sumBounds cX2_sumBounds 6 none ∈ WG := wt_3 (i := 52) rfl rfl
theorem mw_589 : Cond.methodLink RX2 133 yX2_productBounds ∈ WG := wt_3 (i := 54) rfl rfl
theorem mw_591 : Cond.instanceMethod yX2_productBounds ∈ WG := wt_3 (i := 56) rfl rfl
theorem mw_592 : Cond.code yX2_productBounds cX2_productBounds 11 none ∈ WG := wt_3 (i := 57) rfl rfl
theorem mw_593 : Cond.methodLink RL 63 yX8_may ∈ WG := wt_3 (i := 58) rfl rfl
theorem mw_594 : Cond.instanceMethod yX8_may ∈ WG := wt_3 (i := 59) rfl rfl
theorem mw_595 : Cond.selects RX8 yX8_may yX8_may ∈ WG := wt_3 (i := 60) rfl rfl
theorem mw_596 : Cond.code yX8_may cX8_may 3 (some .int) ∈ WG := wt_3 (i := 61) rfl rfl
theorem mw_597 : Cond.methodLink RL 67 yX8_verdict ∈ WG := wt_3 (i := 62) rfl rfl
theorem mw_598 : Cond.instanceMethod yX8_verdict ∈ WG := wt_3 (i := 63) rfl rfl
theorem mw_599 : Cond.selects RX8 yX8_verdict yX8_verdict ∈ WG := wt_3 (i := 64) rfl rfl
theorem mw_600 : Cond.code yX8_verdict cX8_verdict 4 (some .int) ∈ WG := wt_3 (i := 65) rfl rfl
theorem mw_601 : Cond.methodLink RX8 175 yX8_chancesIn ∈ WG := wt_3 (i := 66) rfl rfl
theorem mw_603 : Cond.instanceMethod yX8_chancesIn ∈ WG := wt_3 (i := 68) rfl rfl
theorem mw_604 : Cond.code yX8_chancesIn cX8_chancesIn 3 (some .int) ∈ WG := wt_3 (i := 69) rfl rfl
theorem mw_605 : Cond.methodLink RX8 223 yX1_onlyColumn ∈ WG := wt_3 (i := 70) rfl rfl
theorem mw_606 : Cond.instanceMethod yX1_onlyColumn ∈ WG := wt_3 (i := 71) rfl rfl
theorem mw_607 : Cond.selects RX1 yX1_onlyColumn yX1_onlyColumn ∈ WG := wt_3 (i := 72) rfl rfl
theorem mw_608 : Cond.code yX1_onlyColumn cX1_onlyColumn 3 (some .int) ∈ WG := wt_3 (i := 73) rfl rfl
theorem mw_609 : Cond.methodLink RX8 226 yX8_chancesByList ∈ WG := wt_3 (i := 74) rfl rfl
theorem mw_611 : Cond.instanceMethod yX8_chancesByList ∈ WG := wt_3 (i := 76) rfl rfl
theorem mw_612 : Cond.code yX8_chancesByList cX8_chancesByList 5 (some .int) ∈ WG := wt_3 (i := 77) rfl rfl
theorem mw_613 : Cond.methodLink RX8 230 yX8_chanceOf ∈ WG := wt_3 (i := 78) rfl rfl
theorem mw_614 : Cond.methodLink RX8 179 yX8_rulingOf ∈ WG := wt_3 (i := 79) rfl rfl
theorem mw_615 : Cond.static yX8_rulingOf ∈ WG := wt_3 (i := 80) rfl rfl
theorem mw_616 : Cond.code yX8_rulingOf cX8_rulingOf 1 (some .int) ∈ WG := wt_3 (i := 81) rfl rfl
theorem mw_617 : Cond.methodLink RL 71 yX8_answer ∈ WG := wt_3 (i := 82) rfl rfl
theorem mw_618 : Cond.instanceMethod yX8_answer ∈ WG := wt_3 (i := 83) rfl rfl
theorem mw_619 : Cond.selects RX8 yX8_answer yX8_answer ∈ WG := wt_3 (i := 84) rfl rfl
theorem mw_620 : Cond.code yX8_answer cX8_answer 2 (some .int) ∈ WG := wt_3 (i := 85) rfl rfl
theorem mw_621 : Cond.methodLink RX8 182 yX8_countMatches ∈ WG := wt_3 (i := 86) rfl rfl
theorem mw_623 : Cond.instanceMethod yX8_countMatches ∈ WG := wt_3 (i := 88) rfl rfl
theorem mw_624 : Cond.code yX8_countMatches cX8_countMatches 5 (some .int) ∈ WG := wt_3 (i := 89) rfl rfl
theorem mw_625 : Cond.methodLink RX8 233 yX8_isMatch ∈ WG := wt_3 (i := 90) rfl rfl
theorem mw_627 : Cond.instanceMethod yX8_isMatch ∈ WG := wt_3 (i := 92) rfl rfl
theorem mw_628 : Cond.code yX8_isMatch cX8_isMatch 2 (some .boolean) ∈ WG := wt_3 (i := 93) rfl rfl
theorem mw_629 : Cond.methodLink RX8 185 yX8_countUnlikeMatches ∈ WG := wt_3 (i := 94) rfl rfl
theorem mw_631 : Cond.instanceMethod yX8_countUnlikeMatches ∈ WG := wt_3 (i := 96) rfl rfl
theorem mw_632 : Cond.code yX8_countUnlikeMatches cX8_countUnlikeMatches 4 (some .int) ∈ WG := wt_3 (i := 97) rfl rfl
theorem mw_633 : Cond.methodLink RX8 237 yX4_clear ∈ WG := wt_3 (i := 98) rfl rfl
theorem mw_634 : Cond.instanceMethod yX4_clear ∈ WG := wt_3 (i := 99) rfl rfl
theorem mw_635 : Cond.selects RX4 yX4_clear yX4_clear ∈ WG := wt_3 (i := 100) rfl rfl
theorem mw_636 : Cond.code yX4_clear cX4_clear 1 none ∈ WG := wt_3 (i := 101) rfl rfl
theorem mw_637 : Cond.methodLink RX8 238 yX4_note ∈ WG := wt_3 (i := 102) rfl rfl
theorem mw_638 : Cond.instanceMethod yX4_note ∈ WG := wt_3 (i := 103) rfl rfl
theorem mw_639 : Cond.selects RX4 yX4_note yX4_note ∈ WG := wt_3 (i := 104) rfl rfl
theorem mw_640 : Cond.code yX4_note cX4_note 5 none ∈ WG := wt_3 (i := 105) rfl rfl
theorem mw_641 : Cond.constantLong RX4 19 (2000) ∈ WG := wt_3 (i := 106) rfl rfl
theorem mw_643 : Cond.methodLink RX8 188 yX8_weighBlocks ∈ WG := wt_3 (i := 108) rfl rfl
theorem mw_645 : Cond.instanceMethod yX8_weighBlocks ∈ WG := wt_3 (i := 110) rfl rfl
theorem mw_646 : Cond.code yX8_weighBlocks cX8_weighBlocks 2 none ∈ WG := wt_3 (i := 111) rfl rfl
theorem mw_647 : Cond.methodLink RX8 191 yX8_countScannedRows ∈ WG := wt_3 (i := 112) rfl rfl
theorem mw_649 : Cond.instanceMethod yX8_countScannedRows ∈ WG := wt_3 (i := 114) rfl rfl
theorem mw_650 : Cond.code yX8_countScannedRows cX8_countScannedRows 3 (some .int) ∈ WG := wt_3 (i := 115) rfl rfl
theorem mw_651 : Cond.methodLink RX8 194 yX8_blocksRuled ∈ WG := wt_3 (i := 116) rfl rfl
theorem mw_653 : Cond.instanceMethod yX8_blocksRuled ∈ WG := wt_3 (i := 118) rfl rfl
theorem mw_654 : Cond.code yX8_blocksRuled cX8_blocksRuled 4 (some .int) ∈ WG := wt_3 (i := 119) rfl rfl
theorem mw_655 : Cond.methodLink RL 75 yX8_total ∈ WG := wt_3 (i := 120) rfl rfl
theorem mw_656 : Cond.instanceMethod yX8_total ∈ WG := wt_3 (i := 121) rfl rfl
theorem mw_657 : Cond.selects RX8 yX8_total yX8_total ∈ WG := wt_3 (i := 122) rfl rfl
theorem mw_658 : Cond.code yX8_total cX8_total 3 (some .int) ∈ WG := wt_3 (i := 123) rfl rfl
theorem mw_659 : Cond.methodLink RX8 197 yX8_countRowsToRead ∈ WG := wt_3 (i := 124) rfl rfl
theorem mw_661 : Cond.instanceMethod yX8_countRowsToRead ∈ WG := wt_3 (i := 126) rfl rfl
theorem mw_662 : Cond.code yX8_countRowsToRead cX8_countRowsToRead 5 (some .int) ∈ WG := wt_3 (i := 127) rfl rfl
theorem mw_663 : Cond.methodLink RX8 200 yX8_tallyMatches ∈ WG := wt_3 (i := 128) rfl rfl
theorem mw_665 : Cond.instanceMethod yX8_tallyMatches ∈ WG := wt_3 (i := 130) rfl rfl
theorem mw_666 : Cond.code yX8_tallyMatches cX8_tallyMatches 5 none ∈ WG := wt_3 (i := 131) rfl rfl
theorem mw_667 : Cond.methodLink RX8 243 yX7_clear ∈ WG := wt_3 (i := 132) rfl rfl
theorem mw_668 : Cond.methodLink RX8 244 yX7_note ∈ WG := wt_3 (i := 133) rfl rfl
theorem mw_669 : Cond.instanceMethod yX7_note ∈ WG := wt_3 (i := 134) rfl rfl
theorem mw_670 : Cond.selects RX7 yX7_note yX7_note ∈ WG := wt_3 (i := 135) rfl rfl
theorem mw_671 : Cond.code yX7_note cX7_note 2 none ∈ WG := wt_3 (i := 136) rfl rfl
theorem mw_672 : Cond.methodLink RX7 28 Lib.Math.min.name ∈ WG := wt_3 (i := 137) rfl rfl
theorem mw_673 : Cond.methodLink RX7 34 Lib.Math.max.name ∈ WG := wt_3 (i := 138) rfl rfl
theorem mw_674 : Cond.methodLink RL 79 yX8_image ∈ WG := wt_3 (i := 139) rfl rfl
theorem mw_675 : Cond.instanceMethod yX8_image ∈ WG := wt_3 (i := 140) rfl rfl
theorem mw_676 : Cond.selects RX8 yX8_image yX8_image ∈ WG := wt_3 (i := 141) rfl rfl
theorem mw_677 : Cond.code yX8_image cX8_image 2 (some .int) ∈ WG := wt_3 (i := 142) rfl rfl
theorem mw_678 : Cond.methodLink RX8 210 yX8_isImage ∈ WG := wt_3 (i := 143) rfl rfl
theorem mw_679 : Cond.static yX8_isImage ∈ WG := wt_3 (i := 144) rfl rfl
theorem mw_680 : Cond.code yX8_isImage cX8_isImage 1 (some .boolean) ∈ WG := wt_3 (i := 145) rfl rfl
theorem mw_681 : Cond.methodLink RX8 213 yX5_copyFrom ∈ WG := wt_3 (i := 146) rfl rfl
theorem mw_682 : Cond.instanceMethod yX5_copyFrom ∈ WG := wt_3 (i := 147) rfl rfl
theorem mw_683 : Cond.selects RX5 yX5_copyFrom yX5_copyFrom ∈ WG := wt_3 (i := 148) rfl rfl
theorem mw_684 : Cond.code yX5_copyFrom cX5_copyFrom 3 none ∈ WG := wt_3 (i := 149) rfl rfl
theorem mw_685 : Cond.methodLink RX5 22 yX0_copyFrom ∈ WG := wt_3 (i := 150) rfl rfl
theorem mw_686 : Cond.instanceMethod yX0_copyFrom ∈ WG := wt_3 (i := 151) rfl rfl
theorem mw_687 : Cond.selects RX0 yX0_copyFrom yX0_copyFrom ∈ WG := wt_3 (i := 152) rfl rfl
theorem mw_688 : Cond.code yX0_copyFrom cX0_copyFrom 3 none ∈ WG := wt_3 (i := 153) rfl rfl
theorem mw_689 : Cond.methodLink RL 83 yX8_restore ∈ WG := wt_3 (i := 154) rfl rfl
theorem mw_690 : Cond.instanceMethod yX8_restore ∈ WG := wt_3 (i := 155) rfl rfl
theorem mw_691 : Cond.selects RX8 yX8_restore yX8_restore ∈ WG := wt_3 (i := 156) rfl rfl
theorem mw_692 : Cond.code yX8_restore cX8_restore 2 (some .int) ∈ WG := wt_3 (i := 157) rfl rfl
theorem mw_693 : Cond.methodLink RL 87 yX8_told ∈ WG := wt_3 (i := 158) rfl rfl
theorem mw_694 : Cond.instanceMethod yX8_told ∈ WG := wt_3 (i := 159) rfl rfl
theorem mw_695 : Cond.selects RX8 yX8_told yX8_told ∈ WG := wt_3 (i := 160) rfl rfl
theorem mw_696 : Cond.code yX8_told cX8_told 2 (some .int) ∈ WG := wt_3 (i := 161) rfl rfl
theorem mw_697 : Cond.methodLink RX8 217 yX5_countRows ∈ WG := wt_3 (i := 162) rfl rfl
theorem mw_698 : Cond.instanceMethod yX5_countRows ∈ WG := wt_3 (i := 163) rfl rfl
theorem mw_699 : Cond.selects RX5 yX5_countRows yX5_countRows ∈ WG := wt_3 (i := 164) rfl rfl
theorem mw_700 : Cond.code yX5_countRows cX5_countRows 3 (some .int) ∈ WG := wt_3 (i := 165) rfl rfl
theorem mw_701 : Cond.methodLink RX8 220 yX8_countUnlike ∈ WG := wt_3 (i := 166) rfl rfl
theorem mw_703 : Cond.instanceMethod yX8_countUnlike ∈ WG := wt_3 (i := 168) rfl rfl
theorem mw_704 : Cond.code yX8_countUnlike cX8_countUnlike 3 (some .int) ∈ WG := wt_3 (i := 169) rfl rfl
theorem mw_705 : Cond.classLink RL 10 RX9 ∈ WG := wt_3 (i := 170) rfl rfl
theorem mw_706 : Cond.instantiable RX9 18 ∈ WG := wt_3 (i := 171) rfl rfl
theorem mw_707 : Cond.methodLink RL 12 yX9_init ∈ WG := wt_3 (i := 172) rfl rfl
theorem mw_708 : Cond.instanceMethod yX9_init ∈ WG := wt_3 (i := 173) rfl rfl
theorem mw_709 : Cond.code yX9_init cX9_init 2 none ∈ WG := wt_3 (i := 174) rfl rfl
theorem mw_710 : Cond.methodLink RX9 1 objectInit ∈ WG := wt_3 (i := 175) rfl rfl
theorem mw_711 : Cond.methodLink RX9 62 yX9_clear ∈ WG := wt_3 (i := 176) rfl rfl
theorem mw_713 : Cond.instanceMethod yX9_clear ∈ WG := wt_3 (i := 178) rfl rfl
theorem mw_714 : Cond.code yX9_clear cX9_clear 3 none ∈ WG := wt_3 (i := 179) rfl rfl
theorem mw_715 : Cond.constant RX9 74 (-2000000) ∈ WG := wt_3 (i := 180) rfl rfl
theorem mw_716 : Cond.fieldLink RX9 7 "BlockTruthsModel" "rows" "[I" ∈ WG := wt_3 (i := 181) rfl rfl
theorem mw_717 : Cond.fieldLink RX9 13 "BlockTruthsModel" "many" "[I" ∈ WG := wt_3 (i := 182) rfl rfl
theorem mw_718 : Cond.fieldLink RX9 16 "BlockTruthsModel" "known" "[I" ∈ WG := wt_3 (i := 183) rfl rfl
theorem mw_719 : Cond.fieldLink RX9 19 "BlockTruthsModel" "fresh" "[I" ∈ WG := wt_3 (i := 184) rfl rfl
theorem mw_720 : Cond.fieldLink RX9 102 "BlockTruthsModel" "signs" "I" ∈ WG := wt_3 (i := 185) rfl rfl
theorem mw_721 : Cond.fieldLink RX9 22 "BlockTruthsModel" "pad" "[I" ∈ WG := wt_3 (i := 186) rfl rfl
theorem mw_722 : Cond.fieldLink RX9 25 "BlockTruthsModel" "kind" "[I" ∈ WG := wt_3 (i := 187) rfl rfl
theorem mw_723 : Cond.fieldLink RX9 28 "BlockTruthsModel" "first" "[I" ∈ WG := wt_3 (i := 188) rfl rfl
theorem mw_724 : Cond.fieldLink RX9 31 "BlockTruthsModel" "second" "[I" ∈ WG := wt_3 (i := 189) rfl rfl
theorem mw_725 : Cond.fieldLink RX9 34 "BlockTruthsModel" "end" "[I" ∈ WG := wt_3 (i := 190) rfl rfl
theorem mw_726 : Cond.fieldLink RX9 37 "BlockTruthsModel" "must" "[I" ∈ WG := wt_3 (i := 191) rfl rfl
theorem mw_727 : Cond.fieldLink RX9 40 "BlockTruthsModel" "worth" "[I" ∈ WG := wt_3 (i := 192) rfl rfl
theorem mw_728 : Cond.fieldLink RX9 43 "BlockTruthsModel" "cells" "[I" ∈ WG := wt_3 (i := 193) rfl rfl
theorem mw_729 : Cond.fieldLink RX9 46 "BlockTruthsModel" "maybe" "[I" ∈ WG := wt_3 (i := 194) rfl rfl
theorem mw_730 : Cond.fieldLink RX9 49 "BlockTruthsModel" "low" "[I" ∈ WG := wt_3 (i := 195) rfl rfl
theorem mw_731 : Cond.fieldLink RX9 52 "BlockTruthsModel" "high" "[I" ∈ WG := wt_3 (i := 196) rfl rfl
theorem mw_732 : Cond.fieldLink RX9 55 "BlockTruthsModel" "image" "[I" ∈ WG := wt_3 (i := 197) rfl rfl
theorem mw_733 : Cond.fieldLink RX9 58 "BlockTruthsModel" "isKept" "[Z" ∈ WG := wt_3 (i := 198) rfl rfl
theorem mw_772 : Cond.methodLink RL 17 yX9_add ∈ WG := wt_3 (i := 237) rfl rfl
theorem mw_773 : Cond.instanceMethod yX9_add ∈ WG := wt_3 (i := 238) rfl rfl
theorem mw_774 : Cond.selects RX9 yX9_add yX9_add ∈ WG := wt_3 (i := 239) rfl rfl
theorem mw_775 : Cond.code yX9_add cX9_add 8 (some .int) ∈ WG := wt_4 (i := 0) rfl rfl
theorem mw_776 : Cond.methodLink RX9 70 yX9_isBlock ∈ WG := wt_4 (i := 1) rfl rfl
theorem mw_777 : Cond.static yX9_isBlock ∈ WG := wt_4 (i := 2) rfl rfl
theorem mw_778 : Cond.code yX9_isBlock cX9_isBlock 1 (some .boolean) ∈ WG := wt_4 (i := 3) rfl rfl
theorem mw_779 : Cond.methodLink RX9 66 yX9_in ∈ WG := wt_4 (i := 4) rfl rfl
theorem mw_780 : Cond.static yX9_in ∈ WG := wt_4 (i := 5) rfl rfl
theorem mw_781 : Cond.code yX9_in cX9_in 3 (some .boolean) ∈ WG := wt_4 (i := 6) rfl rfl
theorem mw_782 : Cond.methodLink RX9 79 yX9_come ∈ WG := wt_4 (i := 7) rfl rfl
theorem mw_784 : Cond.instanceMethod yX9_come ∈ WG := wt_4 (i := 9) rfl rfl
theorem mw_785 : Cond.code yX9_come cX9_come 5 none ∈ WG := wt_4 (i := 10) rfl rfl
theorem mw_786 : Cond.methodLink RX9 75 yX9_placeOf ∈ WG := wt_4 (i := 11) rfl rfl
theorem mw_788 : Cond.instanceMethod yX9_placeOf ∈ WG := wt_4 (i := 13) rfl rfl
theorem mw_789 : Cond.code yX9_placeOf cX9_placeOf 4 (some .int) ∈ WG := wt_4 (i := 14) rfl rfl
theorem mw_790 : Cond.methodLink RL 22 yX9_drop ∈ WG := wt_4 (i := 15) rfl rfl
theorem mw_791 : Cond.instanceMethod yX9_drop ∈ WG := wt_4 (i := 16) rfl rfl
theorem mw_792 : Cond.selects RX9 yX9_drop yX9_drop ∈ WG := wt_4 (i := 17) rfl rfl
theorem mw_793 : Cond.code yX9_drop cX9_drop 6 (some .int) ∈ WG := wt_4 (i := 18) rfl rfl
theorem mw_794 : Cond.methodLink RX9 83 yX9_isRow ∈ WG := wt_4 (i := 19) rfl rfl
theorem mw_796 : Cond.instanceMethod yX9_isRow ∈ WG := wt_4 (i := 21) rfl rfl
theorem mw_797 : Cond.code yX9_isRow cX9_isRow 3 (some .boolean) ∈ WG := wt_4 (i := 22) rfl rfl
theorem mw_798 : Cond.methodLink RX9 87 yX9_at ∈ WG := wt_4 (i := 23) rfl rfl
theorem mw_800 : Cond.instanceMethod yX9_at ∈ WG := wt_4 (i := 25) rfl rfl
theorem mw_801 : Cond.code yX9_at cX9_at 4 (some .int) ∈ WG := wt_4 (i := 26) rfl rfl
theorem mw_802 : Cond.methodLink RL 27 yX9_anew ∈ WG := wt_4 (i := 27) rfl rfl
theorem mw_803 : Cond.instanceMethod yX9_anew ∈ WG := wt_4 (i := 28) rfl rfl
theorem mw_804 : Cond.selects RX9 yX9_anew yX9_anew ∈ WG := wt_4 (i := 29) rfl rfl
theorem mw_805 : Cond.code yX9_anew cX9_anew 4 (some .int) ∈ WG := wt_4 (i := 30) rfl rfl
theorem mw_806 : Cond.methodLink RX9 94 yX9_isStale ∈ WG := wt_4 (i := 31) rfl rfl
theorem mw_808 : Cond.instanceMethod yX9_isStale ∈ WG := wt_4 (i := 33) rfl rfl
theorem mw_809 : Cond.code yX9_isStale cX9_isStale 6 (some .boolean) ∈ WG := wt_4 (i := 34) rfl rfl
theorem mw_810 : Cond.methodLink RX9 91 yX9_makeAnew ∈ WG := wt_4 (i := 35) rfl rfl
theorem mw_812 : Cond.instanceMethod yX9_makeAnew ∈ WG := wt_4 (i := 37) rfl rfl
theorem mw_813 : Cond.code yX9_makeAnew cX9_makeAnew 4 none ∈ WG := wt_4 (i := 38) rfl rfl
theorem mw_814 : Cond.methodLink RL 32 yX9_cell ∈ WG := wt_4 (i := 39) rfl rfl
theorem mw_815 : Cond.instanceMethod yX9_cell ∈ WG := wt_4 (i := 40) rfl rfl
theorem mw_816 : Cond.selects RX9 yX9_cell yX9_cell ∈ WG := wt_4 (i := 41) rfl rfl
theorem mw_817 : Cond.code yX9_cell cX9_cell 4 (some .int) ∈ WG := wt_4 (i := 42) rfl rfl
theorem mw_818 : Cond.methodLink RX9 97 yX9_isColumn ∈ WG := wt_4 (i := 43) rfl rfl
theorem mw_819 : Cond.static yX9_isColumn ∈ WG := wt_4 (i := 44) rfl rfl
theorem mw_820 : Cond.code yX9_isColumn cX9_isColumn 1 (some .boolean) ∈ WG := wt_4 (i := 45) rfl rfl
theorem mw_821 : Cond.constant RX9 100 (-3000001) ∈ WG := wt_4 (i := 46) rfl rfl
theorem mw_822 : Cond.methodLink RL 36 yX9_summary ∈ WG := wt_4 (i := 47) rfl rfl
theorem mw_823 : Cond.instanceMethod yX9_summary ∈ WG := wt_4 (i := 48) rfl rfl
theorem mw_824 : Cond.selects RX9 yX9_summary yX9_summary ∈ WG := wt_4 (i := 49) rfl rfl
theorem mw_825 : Cond.code yX9_summary cX9_summary 5 (some .int) ∈ WG := wt_4 (i := 50) rfl rfl
theorem mw_826 : Cond.constant RX9 101 (-3000002) ∈ WG := wt_4 (i := 51) rfl rfl
theorem mw_827 : Cond.methodLink RL 41 yX9_listed ∈ WG := wt_4 (i := 52) rfl rfl
theorem mw_828 : Cond.instanceMethod yX9_listed ∈ WG := wt_4 (i := 53) rfl rfl
theorem mw_829 : Cond.selects RX9 yX9_listed yX9_listed ∈ WG := wt_4 (i := 54) rfl rfl
theorem mw_830 : Cond.code yX9_listed cX9_listed 6 (some .int) ∈ WG := wt_4 (i := 55) rfl rfl
theorem mw_831 : Cond.methodLink RL 45 yX9_say ∈ WG := wt_4 (i := 56) rfl rfl
theorem mw_832 : Cond.instanceMethod yX9_say ∈ WG := wt_4 (i := 57) rfl rfl
theorem mw_833 : Cond.selects RX9 yX9_say yX9_say ∈ WG := wt_4 (i := 58) rfl rfl
theorem mw_834 : Cond.code yX9_say cX9_say 2 (some .int) ∈ WG := wt_4 (i := 59) rfl rfl
theorem mw_835 : Cond.methodLink RL 50 yX9_wipe ∈ WG := wt_4 (i := 60) rfl rfl
theorem mw_836 : Cond.instanceMethod yX9_wipe ∈ WG := wt_4 (i := 61) rfl rfl
theorem mw_837 : Cond.selects RX9 yX9_wipe yX9_wipe ∈ WG := wt_4 (i := 62) rfl rfl
theorem mw_838 : Cond.code yX9_wipe cX9_wipe 2 (some .int) ∈ WG := wt_4 (i := 63) rfl rfl
theorem mw_839 : Cond.methodLink RL 54 yX9_fault ∈ WG := wt_4 (i := 64) rfl rfl
theorem mw_840 : Cond.instanceMethod yX9_fault ∈ WG := wt_4 (i := 65) rfl rfl
theorem mw_841 : Cond.selects RX9 yX9_fault yX9_fault ∈ WG := wt_4 (i := 66) rfl rfl
theorem mw_842 : Cond.code yX9_fault cX9_fault 1 (some .int) ∈ WG := wt_4 (i := 67) rfl rfl
theorem mw_843 : Cond.methodLink RX9 116 yX9_read ∈ WG := wt_4 (i := 68) rfl rfl
theorem mw_845 : Cond.instanceMethod yX9_read ∈ WG := wt_4 (i := 70) rfl rfl
theorem mw_846 : Cond.code yX9_read cX9_read 7 (some .int) ∈ WG := wt_4 (i := 71) rfl rfl
theorem mw_847 : Cond.methodLink RX9 106 yX9_truthOf ∈ WG := wt_4 (i := 72) rfl rfl
theorem mw_848 : Cond.static yX9_truthOf ∈ WG := wt_4 (i := 73) rfl rfl
theorem mw_849 : Cond.code yX9_truthOf cX9_truthOf 1 (some .int) ∈ WG := wt_4 (i := 74) rfl rfl
theorem mw_850 : Cond.methodLink RX9 110 yX9_termOf ∈ WG := wt_4 (i := 75) rfl rfl
theorem mw_851 : Cond.static yX9_termOf ∈ WG := wt_4 (i := 76) rfl rfl
theorem mw_852 : Cond.code yX9_termOf cX9_termOf 1 (some .int) ∈ WG := wt_4 (i := 77) rfl rfl
theorem mw_853 : Cond.methodLink RX9 113 yX9_inner ∈ WG := wt_4 (i := 78) rfl rfl
theorem mw_854 : Cond.static yX9_inner ∈ WG := wt_4 (i := 79) rfl rfl
theorem mw_855 : Cond.code yX9_inner cX9_inner 1 (some .int) ∈ WG := wt_4 (i := 80) rfl rfl
theorem mw_856 : Cond.methodLink RL 58 yX9_truth ∈ WG := wt_4 (i := 81) rfl rfl
theorem mw_857 : Cond.instanceMethod yX9_truth ∈ WG := wt_4 (i := 82) rfl rfl
theorem mw_858 : Cond.selects RX9 yX9_truth yX9_truth ∈ WG := wt_4 (i := 83) rfl rfl
theorem mw_859 : Cond.code yX9_truth cX9_truth 3 (some .int) ∈ WG := wt_4 (i := 84) rfl rfl
theorem mw_860 : Cond.methodLink RX9 157 yX9_truthOfRow ∈ WG := wt_4 (i := 85) rfl rfl
theorem mw_862 : Cond.instanceMethod yX9_truthOfRow ∈ WG := wt_4 (i := 87) rfl rfl
theorem mw_863 : Cond.code yX9_truthOfRow cX9_truthOfRow 4 (some .int) ∈ WG := wt_4 (i := 88) rfl rfl
theorem mw_864 : Cond.methodLink RX9 154 yX9_layRow ∈ WG := wt_4 (i := 89) rfl rfl
theorem mw_866 : Cond.instanceMethod yX9_layRow ∈ WG := wt_4 (i := 91) rfl rfl
theorem mw_867 : Cond.code yX9_layRow cX9_layRow 2 none ∈ WG := wt_4 (i := 92) rfl rfl
theorem mw_868 : Cond.methodLink RX9 126 yX9_isTerm ∈ WG := wt_4 (i := 93) rfl rfl
theorem mw_870 : Cond.instanceMethod yX9_isTerm ∈ WG := wt_4 (i := 95) rfl rfl
theorem mw_871 : Cond.code yX9_isTerm cX9_isTerm 2 (some .boolean) ∈ WG := wt_4 (i := 96) rfl rfl
theorem mw_872 : Cond.methodLink RX9 129 yX9_number ∈ WG := wt_4 (i := 97) rfl rfl
theorem mw_874 : Cond.instanceMethod yX9_number ∈ WG := wt_4 (i := 99) rfl rfl
theorem mw_875 : Cond.code yX9_number cX9_number 5 (some .int) ∈ WG := wt_4 (i := 100) rfl rfl
theorem mw_876 : Cond.methodLink RX9 135 yX9_three ∈ WG := wt_4 (i := 101) rfl rfl
theorem mw_878 : Cond.instanceMethod yX9_three ∈ WG := wt_4 (i := 103) rfl rfl
theorem mw_879 : Cond.code yX9_three cX9_three 2 (some .int) ∈ WG := wt_4 (i := 104) rfl rfl
theorem mw_880 : Cond.methodLink RX9 138 yX9_cut ∈ WG := wt_4 (i := 105) rfl rfl
theorem mw_881 : Cond.static yX9_cut ∈ WG := wt_4 (i := 106) rfl rfl
theorem mw_882 : Cond.code yX9_cut cX9_cut 2 (some .int) ∈ WG := wt_4 (i := 107) rfl rfl
theorem mw_883 : Cond.constantLong RX9 120 (-1000000) ∈ WG := wt_4 (i := 108) rfl rfl
theorem mw_884 : Cond.constant RX9 122 (-1000000) ∈ WG := wt_4 (i := 109) rfl rfl
theorem mw_885 : Cond.constantLong RX9 123 (1000000) ∈ WG := wt_4 (i := 110) rfl rfl
theorem mw_886 : Cond.constant RX9 125 (1000000) ∈ WG := wt_4 (i := 111) rfl rfl
theorem mw_887 : Cond.methodLink RX9 142 yX9_byteOf ∈ WG := wt_4 (i := 112) rfl rfl
theorem mw_888 : Cond.static yX9_byteOf ∈ WG := wt_4 (i := 113) rfl rfl
theorem mw_889 : Cond.code yX9_byteOf cX9_byteOf 2 (some .int) ∈ WG := wt_4 (i := 114) rfl rfl
theorem mw_890 : Cond.methodLink RX9 132 yX9_truthAt ∈ WG := wt_4 (i := 115) rfl rfl
theorem mw_892 : Cond.instanceMethod yX9_truthAt ∈ WG := wt_4 (i := 117) rfl rfl
theorem mw_893 : Cond.code yX9_truthAt cX9_truthAt 4 (some .int) ∈ WG := wt_4 (i := 118) rfl rfl
theorem mw_894 : Cond.methodLink RX9 148 yX9_both ∈ WG := wt_4 (i := 119) rfl rfl
theorem mw_895 : Cond.static yX9_both ∈ WG := wt_4 (i := 120) rfl rfl
theorem mw_896 : Cond.code yX9_both cX9_both 2 (some .int) ∈ WG := wt_4 (i := 121) rfl rfl
theorem mw_897 : Cond.methodLink RX9 151 yX9_either ∈ WG := wt_4 (i := 122) rfl rfl
theorem mw_898 : Cond.static yX9_either ∈ WG := wt_4 (i := 123) rfl rfl
theorem mw_899 : Cond.code yX9_either cX9_either 2 (some .int) ∈ WG := wt_4 (i := 124) rfl rfl
theorem mw_900 : Cond.methodLink RX9 145 yX9_not ∈ WG := wt_4 (i := 125) rfl rfl
theorem mw_901 : Cond.static yX9_not ∈ WG := wt_4 (i := 126) rfl rfl
theorem mw_902 : Cond.code yX9_not cX9_not 1 (some .int) ∈ WG := wt_4 (i := 127) rfl rfl
theorem mw_903 : Cond.methodLink RL 62 yX9_range ∈ WG := wt_4 (i := 128) rfl rfl
theorem mw_904 : Cond.instanceMethod yX9_range ∈ WG := wt_4 (i := 129) rfl rfl
theorem mw_905 : Cond.selects RX9 yX9_range yX9_range ∈ WG := wt_4 (i := 130) rfl rfl
theorem mw_906 : Cond.code yX9_range cX9_range 5 (some .int) ∈ WG := wt_4 (i := 131) rfl rfl
theorem mw_907 : Cond.constant RX9 169 (-3000005) ∈ WG := wt_4 (i := 132) rfl rfl
theorem mw_908 : Cond.constant RX9 170 (-3000003) ∈ WG := wt_4 (i := 133) rfl rfl
theorem mw_909 : Cond.methodLink RX9 171 yX9_layBlock ∈ WG := wt_4 (i := 134) rfl rfl
theorem mw_911 : Cond.instanceMethod yX9_layBlock ∈ WG := wt_4 (i := 136) rfl rfl
theorem mw_912 : Cond.code yX9_layBlock cX9_layBlock 3 none ∈ WG := wt_4 (i := 137) rfl rfl
theorem mw_913 : Cond.methodLink RX9 160 yX9_layRange ∈ WG := wt_4 (i := 138) rfl rfl
theorem mw_915 : Cond.instanceMethod yX9_layRange ∈ WG := wt_4 (i := 140) rfl rfl
theorem mw_916 : Cond.code yX9_layRange cX9_layRange 22 none ∈ WG := wt_4 (i := 141) rfl rfl
theorem mw_917 : Cond.methodLink RX9 163 yX9_mayAt ∈ WG := wt_4 (i := 142) rfl rfl
theorem mw_919 : Cond.instanceMethod yX9_mayAt ∈ WG := wt_4 (i := 144) rfl rfl
theorem mw_920 : Cond.code yX9_mayAt cX9_mayAt 9 (some .int) ∈ WG := wt_4 (i := 145) rfl rfl
theorem mw_921 : Cond.methodLink RX9 166 yX9_bit ∈ WG := wt_4 (i := 146) rfl rfl
theorem mw_922 : Cond.static yX9_bit ∈ WG := wt_4 (i := 147) rfl rfl
theorem mw_923 : Cond.code yX9_bit cX9_bit 1 (some .int) ∈ WG := wt_4 (i := 148) rfl rfl
theorem mw_924 : Cond.methodLink RL 66 yX9_may ∈ WG := wt_4 (i := 149) rfl rfl
theorem mw_925 : Cond.instanceMethod yX9_may ∈ WG := wt_4 (i := 150) rfl rfl
theorem mw_926 : Cond.selects RX9 yX9_may yX9_may ∈ WG := wt_4 (i := 151) rfl rfl
theorem mw_927 : Cond.code yX9_may cX9_may 3 (some .int) ∈ WG := wt_4 (i := 152) rfl rfl
theorem mw_928 : Cond.methodLink RL 70 yX9_verdict ∈ WG := wt_4 (i := 153) rfl rfl
theorem mw_929 : Cond.instanceMethod yX9_verdict ∈ WG := wt_4 (i := 154) rfl rfl
theorem mw_930 : Cond.selects RX9 yX9_verdict yX9_verdict ∈ WG := wt_4 (i := 155) rfl rfl
theorem mw_931 : Cond.code yX9_verdict cX9_verdict 3 (some .int) ∈ WG := wt_4 (i := 156) rfl rfl
theorem mw_932 : Cond.methodLink RX9 180 yX9_verdictOf ∈ WG := wt_4 (i := 157) rfl rfl
theorem mw_934 : Cond.instanceMethod yX9_verdictOf ∈ WG := wt_4 (i := 159) rfl rfl
theorem mw_935 : Cond.code yX9_verdictOf cX9_verdictOf 3 (some .int) ∈ WG := wt_4 (i := 160) rfl rfl
theorem mw_936 : Cond.methodLink RX9 177 yX9_mayOf ∈ WG := wt_4 (i := 161) rfl rfl
theorem mw_938 : Cond.instanceMethod yX9_mayOf ∈ WG := wt_4 (i := 163) rfl rfl
theorem mw_939 : Cond.code yX9_mayOf cX9_mayOf 7 (some .int) ∈ WG := wt_4 (i := 164) rfl rfl
theorem mw_940 : Cond.methodLink RX9 174 yX9_onlyColumn ∈ WG := wt_4 (i := 165) rfl rfl
theorem mw_942 : Cond.instanceMethod yX9_onlyColumn ∈ WG := wt_4 (i := 167) rfl rfl
theorem mw_943 : Cond.code yX9_onlyColumn cX9_onlyColumn 4 (some .int) ∈ WG := wt_4 (i := 168) rfl rfl
theorem mw_944 : Cond.methodLink RL 74 yX9_answer ∈ WG := wt_4 (i := 169) rfl rfl
theorem mw_945 : Cond.instanceMethod yX9_answer ∈ WG := wt_4 (i := 170) rfl rfl
theorem mw_946 : Cond.selects RX9 yX9_answer yX9_answer ∈ WG := wt_4 (i := 171) rfl rfl
theorem mw_947 : Cond.code yX9_answer cX9_answer 12 (some .int) ∈ WG := wt_4 (i := 172) rfl rfl
theorem mw_948 : Cond.methodLink RX9 183 yX9_isLike ∈ WG := wt_4 (i := 173) rfl rfl
theorem mw_950 : Cond.instanceMethod yX9_isLike ∈ WG := wt_4 (i := 175) rfl rfl
theorem mw_951 : Cond.code yX9_isLike cX9_isLike 7 (some .boolean) ∈ WG := wt_4 (i := 176) rfl rfl
theorem mw_952 : Cond.methodLink RL 78 yX9_total ∈ WG := wt_4 (i := 177) rfl rfl
theorem mw_953 : Cond.instanceMethod yX9_total ∈ WG := wt_4 (i := 178) rfl rfl
theorem mw_954 : Cond.selects RX9 yX9_total yX9_total ∈ WG := wt_4 (i := 179) rfl rfl
theorem mw_955 : Cond.code yX9_total cX9_total 12 (some .int) ∈ WG := wt_4 (i := 180) rfl rfl
theorem mw_956 : Cond.methodLink RL 82 yX9_image ∈ WG := wt_4 (i := 181) rfl rfl
theorem mw_957 : Cond.instanceMethod yX9_image ∈ WG := wt_4 (i := 182) rfl rfl
theorem mw_958 : Cond.selects RX9 yX9_image yX9_image ∈ WG := wt_4 (i := 183) rfl rfl
theorem mw_959 : Cond.code yX9_image cX9_image 4 (some .int) ∈ WG := wt_4 (i := 184) rfl rfl
theorem mw_960 : Cond.methodLink RL 86 yX9_restore ∈ WG := wt_4 (i := 185) rfl rfl
theorem mw_961 : Cond.instanceMethod yX9_restore ∈ WG := wt_4 (i := 186) rfl rfl
theorem mw_962 : Cond.selects RX9 yX9_restore yX9_restore ∈ WG := wt_4 (i := 187) rfl rfl
theorem mw_963 : Cond.code yX9_restore cX9_restore 4 (some .int) ∈ WG := wt_4 (i := 188) rfl rfl
theorem mw_964 : Cond.methodLink RL 90 yX9_told ∈ WG := wt_4 (i := 189) rfl rfl
theorem mw_965 : Cond.instanceMethod yX9_told ∈ WG := wt_4 (i := 190) rfl rfl
theorem mw_966 : Cond.selects RX9 yX9_told yX9_told ∈ WG := wt_4 (i := 191) rfl rfl
theorem mw_967 : Cond.code yX9_told cX9_told 7 (some .int) ∈ WG := wt_4 (i := 192) rfl rfl
