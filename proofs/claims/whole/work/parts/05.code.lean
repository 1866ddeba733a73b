theorem dX9_init_0 : decode cX9_init 0 = .ok (.aload_n 0, 1) := by decide +kernel
theorem dX9_init_1 : decode cX9_init 1 = .ok (.invokespecial 1, 3) := by decide +kernel
theorem dX9_init_4 : decode cX9_init 4 = .ok (.aload_n 0, 1) := by decide +kernel
theorem dX9_init_5 : decode cX9_init 5 = .ok (.sipush 192, 3) := by decide +kernel
theorem dX9_init_8 : decode cX9_init 8 = .ok (.newarray .int, 2) := by decide +kernel
theorem dX9_init_10 : decode cX9_init 10 = .ok (.putfield 7, 3) := by decide +kernel
theorem dX9_init_13 : decode cX9_init 13 = .ok (.aload_n 0, 1) := by decide +kernel
theorem dX9_init_14 : decode cX9_init 14 = .ok (.bipush 6, 2) := by decide +kernel
theorem dX9_init_16 : decode cX9_init 16 = .ok (.newarray .int, 2) := by decide +kernel
theorem dX9_init_18 : decode cX9_init 18 = .ok (.putfield 13, 3) := by decide +kernel
theorem dX9_init_21 : decode cX9_init 21 = .ok (.aload_n 0, 1) := by decide +kernel
theorem dX9_init_22 : decode cX9_init 22 = .ok (.sipush 288, 3) := by decide +kernel
theorem dX9_init_25 : decode cX9_init 25 = .ok (.newarray .int, 2) := by decide +kernel
theorem dX9_init_27 : decode cX9_init 27 = .ok (.putfield 16, 3) := by decide +kernel
theorem dX9_init_30 : decode cX9_init 30 = .ok (.aload_n 0, 1) := by decide +kernel
theorem dX9_init_31 : decode cX9_init 31 = .ok (.bipush 12, 2) := by decide +kernel
theorem dX9_init_33 : decode cX9_init 33 = .ok (.newarray .int, 2) := by decide +kernel
theorem dX9_init_35 : decode cX9_init 35 = .ok (.putfield 19, 3) := by decide +kernel
theorem dX9_init_38 : decode cX9_init 38 = .ok (.aload_n 0, 1) := by decide +kernel
theorem dX9_init_39 : decode cX9_init 39 = .ok (.bipush 60, 2) := by decide +kernel
theorem dX9_init_41 : decode cX9_init 41 = .ok (.newarray .int, 2) := by decide +kernel
theorem dX9_init_43 : decode cX9_init 43 = .ok (.putfield 22, 3) := by decide +kernel
theorem dX9_init_46 : decode cX9_init 46 = .ok (.aload_n 0, 1) := by decide +kernel
theorem dX9_init_47 : decode cX9_init 47 = .ok (.bipush 60, 2) := by decide +kernel
theorem dX9_init_49 : decode cX9_init 49 = .ok (.newarray .int, 2) := by decide +kernel
theorem dX9_init_51 : decode cX9_init 51 = .ok (.putfield 25, 3) := by decide +kernel
theorem dX9_init_54 : decode cX9_init 54 = .ok (.aload_n 0, 1) := by decide +kernel
theorem dX9_init_55 : decode cX9_init 55 = .ok (.bipush 60, 2) := by decide +kernel
theorem dX9_init_57 : decode cX9_init 57 = .ok (.newarray .int, 2) := by decide +kernel
theorem dX9_init_59 : decode cX9_init 59 = .ok (.putfield 28, 3) := by decide +kernel
theorem dX9_init_62 : decode cX9_init 62 = .ok (.aload_n 0, 1) := by decide +kernel
theorem dX9_init_63 : decode cX9_init 63 = .ok (.bipush 60, 2) := by decide +kernel
theorem dX9_init_65 : decode cX9_init 65 = .ok (.newarray .int, 2) := by decide +kernel
theorem dX9_init_67 : decode cX9_init 67 = .ok (.putfield 31, 3) := by decide +kernel
theorem dX9_init_70 : decode cX9_init 70 = .ok (.aload_n 0, 1) := by decide +kernel
theorem dX9_init_71 : decode cX9_init 71 = .ok (.bipush 60, 2) := by decide +kernel
theorem dX9_init_73 : decode cX9_init 73 = .ok (.newarray .int, 2) := by decide +kernel
theorem dX9_init_75 : decode cX9_init 75 = .ok (.putfield 34, 3) := by decide +kernel
theorem dX9_init_78 : decode cX9_init 78 = .ok (.aload_n 0, 1) := by decide +kernel
theorem dX9_init_79 : decode cX9_init 79 = .ok (.sipush 200, 3) := by decide +kernel
theorem dX9_init_82 : decode cX9_init 82 = .ok (.newarray .int, 2) := by decide +kernel
theorem dX9_init_84 : decode cX9_init 84 = .ok (.putfield 37, 3) := by decide +kernel
theorem dX9_init_87 : decode cX9_init 87 = .ok (.aload_n 0, 1) := by decide +kernel
theorem dX9_init_88 : decode cX9_init 88 = .ok (.bipush 60, 2) := by decide +kernel
theorem dX9_init_90 : decode cX9_init 90 = .ok (.newarray .int, 2) := by decide +kernel
theorem dX9_init_92 : decode cX9_init 92 = .ok (.putfield 40, 3) := by decide +kernel
theorem dX9_init_95 : decode cX9_init 95 = .ok (.aload_n 0, 1) := by decide +kernel
theorem dX9_init_96 : decode cX9_init 96 = .ok (.iconst 4, 1) := by decide +kernel
theorem dX9_init_97 : decode cX9_init 97 = .ok (.newarray .int, 2) := by decide +kernel
theorem dX9_init_99 : decode cX9_init 99 = .ok (.putfield 43, 3) := by decide +kernel
theorem dX9_init_102 : decode cX9_init 102 = .ok (.aload_n 0, 1) := by decide +kernel
theorem dX9_init_103 : decode cX9_init 103 = .ok (.bipush 60, 2) := by decide +kernel
theorem dX9_init_105 : decode cX9_init 105 = .ok (.newarray .int, 2) := by decide +kernel
theorem dX9_init_107 : decode cX9_init 107 = .ok (.putfield 46, 3) := by decide +kernel
theorem dX9_init_110 : decode cX9_init 110 = .ok (.aload_n 0, 1) := by decide +kernel
theorem dX9_init_111 : decode cX9_init 111 = .ok (.bipush 60, 2) := by decide +kernel
theorem dX9_init_113 : decode cX9_init 113 = .ok (.newarray .int, 2) := by decide +kernel
theorem dX9_init_115 : decode cX9_init 115 = .ok (.putfield 49, 3) := by decide +kernel
theorem dX9_init_118 : decode cX9_init 118 = .ok (.aload_n 0, 1) := by decide +kernel
theorem dX9_init_119 : decode cX9_init 119 = .ok (.bipush 60, 2) := by decide +kernel
theorem dX9_init_121 : decode cX9_init 121 = .ok (.newarray .int, 2) := by decide +kernel
theorem dX9_init_123 : decode cX9_init 123 = .ok (.putfield 52, 3) := by decide +kernel
theorem dX9_init_126 : decode cX9_init 126 = .ok (.aload_n 0, 1) := by decide +kernel
theorem dX9_init_127 : decode cX9_init 127 = .ok (.sipush 1000, 3) := by decide +kernel
theorem dX9_init_130 : decode cX9_init 130 = .ok (.newarray .int, 2) := by decide +kernel
theorem dX9_init_132 : decode cX9_init 132 = .ok (.putfield 55, 3) := by decide +kernel
theorem dX9_init_135 : decode cX9_init 135 = .ok (.aload_n 0, 1) := by decide +kernel
theorem dX9_init_136 : decode cX9_init 136 = .ok (.iconst 2, 1) := by decide +kernel
theorem dX9_init_137 : decode cX9_init 137 = .ok (.newarray .boolean, 2) := by decide +kernel
theorem dX9_init_139 : decode cX9_init 139 = .ok (.putfield 58, 3) := by decide +kernel
theorem dX9_init_142 : decode cX9_init 142 = .ok (.iconst 0, 1) := by decide +kernel
theorem dX9_init_143 : decode cX9_init 143 = .ok (.istore_n 1, 1) := by decide +kernel
theorem dX9_init_144 : decode cX9_init 144 = .ok (.iload_n 1, 1) := by decide +kernel
theorem dX9_init_145 : decode cX9_init 145 = .ok (.bipush 24, 2) := by decide +kernel
theorem dX9_init_147 : decode cX9_init 147 = .ok (.if_icmp .ge 14, 3) := by decide +kernel
theorem dX9_init_150 : decode cX9_init 150 = .ok (.aload_n 0, 1) := by decide +kernel
theorem dX9_init_151 : decode cX9_init 151 = .ok (.iload_n 1, 1) := by decide +kernel
theorem dX9_init_152 : decode cX9_init 152 = .ok (.invokevirtual 62, 3) := by decide +kernel
theorem dX9_init_155 : decode cX9_init 155 = .ok (.iinc 1 1, 3) := by decide +kernel
theorem dX9_init_158 : decode cX9_init 158 = .ok (.goto (-14), 3) := by decide +kernel
theorem dX9_init_161 : decode cX9_init 161 = .ok (.return_, 1) := by decide +kernel
theorem dX9_in_0 : decode cX9_in 0 = .ok (.iload_n 0, 1) := by decide +kernel
theorem dX9_in_1 : decode cX9_in 1 = .ok (.iload_n 1, 1) := by decide +kernel
theorem dX9_in_2 : decode cX9_in 2 = .ok (.if_icmp .lt 12, 3) := by decide +kernel
theorem dX9_in_5 : decode cX9_in 5 = .ok (.iload_n 0, 1) := by decide +kernel
theorem dX9_in_6 : decode cX9_in 6 = .ok (.iload_n 2, 1) := by decide +kernel
theorem dX9_in_7 : decode cX9_in 7 = .ok (.if_icmp .gt 7, 3) := by decide +kernel
theorem dX9_in_10 : decode cX9_in 10 = .ok (.iconst 1, 1) := by decide +kernel
theorem dX9_in_11 : decode cX9_in 11 = .ok (.goto 4, 3) := by decide +kernel
theorem dX9_in_14 : decode cX9_in 14 = .ok (.iconst 0, 1) := by decide +kernel
theorem dX9_in_15 : decode cX9_in 15 = .ok (.ireturn, 1) := by decide +kernel
theorem dX9_isBlock_0 : decode cX9_isBlock 0 = .ok (.iload_n 0, 1) := by decide +kernel
theorem dX9_isBlock_1 : decode cX9_isBlock 1 = .ok (.iconst 0, 1) := by decide +kernel
theorem dX9_isBlock_2 : decode cX9_isBlock 2 = .ok (.iconst 5, 1) := by decide +kernel
theorem dX9_isBlock_3 : decode cX9_isBlock 3 = .ok (.invokestatic 66, 3) := by decide +kernel
theorem dX9_isBlock_6 : decode cX9_isBlock 6 = .ok (.ireturn, 1) := by decide +kernel
theorem dX9_isColumn_0 : decode cX9_isColumn 0 = .ok (.iload_n 0, 1) := by decide +kernel
theorem dX9_isColumn_1 : decode cX9_isColumn 1 = .ok (.iconst 0, 1) := by decide +kernel
theorem dX9_isColumn_2 : decode cX9_isColumn 2 = .ok (.iconst 3, 1) := by decide +kernel
theorem dX9_isColumn_3 : decode cX9_isColumn 3 = .ok (.invokestatic 66, 3) := by decide +kernel
theorem dX9_isColumn_6 : decode cX9_isColumn 6 = .ok (.ireturn, 1) := by decide +kernel
theorem dX9_isRow_0 : decode cX9_isRow 0 = .ok (.iload_n 1, 1) := by decide +kernel
theorem dX9_isRow_1 : decode cX9_isRow 1 = .ok (.invokestatic 70, 3) := by decide +kernel
theorem dX9_isRow_4 : decode cX9_isRow 4 = .ok (.ifCond .eq 23, 3) := by decide +kernel
theorem dX9_isRow_7 : decode cX9_isRow 7 = .ok (.iload_n 2, 1) := by decide +kernel
theorem dX9_isRow_8 : decode cX9_isRow 8 = .ok (.iconst 0, 1) := by decide +kernel
theorem dX9_isRow_9 : decode cX9_isRow 9 = .ok (.aload_n 0, 1) := by decide +kernel
theorem dX9_isRow_10 : decode cX9_isRow 10 = .ok (.getfield 13, 3) := by decide +kernel
theorem dX9_isRow_13 : decode cX9_isRow 13 = .ok (.iload_n 1, 1) := by decide +kernel
theorem dX9_isRow_14 : decode cX9_isRow 14 = .ok (.iaload, 1) := by decide +kernel
theorem dX9_isRow_15 : decode cX9_isRow 15 = .ok (.iconst 1, 1) := by decide +kernel
theorem dX9_isRow_16 : decode cX9_isRow 16 = .ok (.isub, 1) := by decide +kernel
theorem dX9_isRow_17 : decode cX9_isRow 17 = .ok (.invokestatic 66, 3) := by decide +kernel
theorem dX9_isRow_20 : decode cX9_isRow 20 = .ok (.ifCond .eq 7, 3) := by decide +kernel
theorem dX9_isRow_23 : decode cX9_isRow 23 = .ok (.iconst 1, 1) := by decide +kernel
theorem dX9_isRow_24 : decode cX9_isRow 24 = .ok (.goto 4, 3) := by decide +kernel
theorem dX9_isRow_27 : decode cX9_isRow 27 = .ok (.iconst 0, 1) := by decide +kernel
theorem dX9_isRow_28 : decode cX9_isRow 28 = .ok (.ireturn, 1) := by decide +kernel
theorem dX9_at_0 : decode cX9_at 0 = .ok (.aload_n 0, 1) := by decide +kernel
theorem dX9_at_1 : decode cX9_at 1 = .ok (.getfield 7, 3) := by decide +kernel
theorem dX9_at_4 : decode cX9_at 4 = .ok (.bipush 32, 2) := by decide +kernel
theorem dX9_at_6 : decode cX9_at 6 = .ok (.iload_n 1, 1) := by decide +kernel
theorem dX9_at_7 : decode cX9_at 7 = .ok (.imul, 1) := by decide +kernel
theorem dX9_at_8 : decode cX9_at 8 = .ok (.iconst 4, 1) := by decide +kernel
theorem dX9_at_9 : decode cX9_at 9 = .ok (.iload_n 2, 1) := by decide +kernel
theorem dX9_at_10 : decode cX9_at 10 = .ok (.imul, 1) := by decide +kernel
theorem dX9_at_11 : decode cX9_at 11 = .ok (.iadd, 1) := by decide +kernel
theorem dX9_at_12 : decode cX9_at 12 = .ok (.iload_n 3, 1) := by decide +kernel
theorem dX9_at_13 : decode cX9_at 13 = .ok (.iadd, 1) := by decide +kernel
theorem dX9_at_14 : decode cX9_at 14 = .ok (.iaload, 1) := by decide +kernel
theorem dX9_at_15 : decode cX9_at 15 = .ok (.ireturn, 1) := by decide +kernel
theorem dX9_clear_0 : decode cX9_clear 0 = .ok (.iconst 0, 1) := by decide +kernel
theorem dX9_clear_1 : decode cX9_clear 1 = .ok (.istore_n 2, 1) := by decide +kernel
theorem dX9_clear_2 : decode cX9_clear 2 = .ok (.iload_n 2, 1) := by decide +kernel
theorem dX9_clear_3 : decode cX9_clear 3 = .ok (.bipush 12, 2) := by decide +kernel
theorem dX9_clear_5 : decode cX9_clear 5 = .ok (.if_icmp .ge 31, 3) := by decide +kernel
theorem dX9_clear_8 : decode cX9_clear 8 = .ok (.aload_n 0, 1) := by decide +kernel
theorem dX9_clear_9 : decode cX9_clear 9 = .ok (.getfield 16, 3) := by decide +kernel
theorem dX9_clear_12 : decode cX9_clear 12 = .ok (.bipush 12, 2) := by decide +kernel
theorem dX9_clear_14 : decode cX9_clear 14 = .ok (.iload_n 1, 1) := by decide +kernel
theorem dX9_clear_15 : decode cX9_clear 15 = .ok (.imul, 1) := by decide +kernel
theorem dX9_clear_16 : decode cX9_clear 16 = .ok (.iload_n 2, 1) := by decide +kernel
theorem dX9_clear_17 : decode cX9_clear 17 = .ok (.iadd, 1) := by decide +kernel
theorem dX9_clear_18 : decode cX9_clear 18 = .ok (.iload_n 2, 1) := by decide +kernel
theorem dX9_clear_19 : decode cX9_clear 19 = .ok (.iconst 2, 1) := by decide +kernel
theorem dX9_clear_20 : decode cX9_clear 20 = .ok (.if_icmp .ge 8, 3) := by decide +kernel
theorem dX9_clear_23 : decode cX9_clear 23 = .ok (.ldc 74, 2) := by decide +kernel
theorem dX9_clear_25 : decode cX9_clear 25 = .ok (.goto 4, 3) := by decide +kernel
theorem dX9_clear_28 : decode cX9_clear 28 = .ok (.iconst 0, 1) := by decide +kernel
theorem dX9_clear_29 : decode cX9_clear 29 = .ok (.iastore, 1) := by decide +kernel
theorem dX9_clear_30 : decode cX9_clear 30 = .ok (.iinc 2 1, 3) := by decide +kernel
theorem dX9_clear_33 : decode cX9_clear 33 = .ok (.goto (-31), 3) := by decide +kernel
theorem dX9_clear_36 : decode cX9_clear 36 = .ok (.return_, 1) := by decide +kernel
theorem dX9_placeOf_0 : decode cX9_placeOf 0 = .ok (.iconst 0, 1) := by decide +kernel
theorem dX9_placeOf_1 : decode cX9_placeOf 1 = .ok (.istore_n 3, 1) := by decide +kernel
theorem dX9_placeOf_2 : decode cX9_placeOf 2 = .ok (.iload_n 3, 1) := by decide +kernel
theorem dX9_placeOf_3 : decode cX9_placeOf 3 = .ok (.aload_n 0, 1) := by decide +kernel
theorem dX9_placeOf_4 : decode cX9_placeOf 4 = .ok (.getfield 16, 3) := by decide +kernel
theorem dX9_placeOf_7 : decode cX9_placeOf 7 = .ok (.bipush 12, 2) := by decide +kernel
theorem dX9_placeOf_9 : decode cX9_placeOf 9 = .ok (.iload_n 1, 1) := by decide +kernel
theorem dX9_placeOf_10 : decode cX9_placeOf 10 = .ok (.imul, 1) := by decide +kernel
theorem dX9_placeOf_11 : decode cX9_placeOf 11 = .ok (.iconst 3, 1) := by decide +kernel
theorem dX9_placeOf_12 : decode cX9_placeOf 12 = .ok (.iadd, 1) := by decide +kernel
theorem dX9_placeOf_13 : decode cX9_placeOf 13 = .ok (.iaload, 1) := by decide +kernel
theorem dX9_placeOf_14 : decode cX9_placeOf 14 = .ok (.if_icmp .ge 28, 3) := by decide +kernel
theorem dX9_placeOf_17 : decode cX9_placeOf 17 = .ok (.aload_n 0, 1) := by decide +kernel
theorem dX9_placeOf_18 : decode cX9_placeOf 18 = .ok (.getfield 16, 3) := by decide +kernel
theorem dX9_placeOf_21 : decode cX9_placeOf 21 = .ok (.bipush 12, 2) := by decide +kernel
theorem dX9_placeOf_23 : decode cX9_placeOf 23 = .ok (.iload_n 1, 1) := by decide +kernel
theorem dX9_placeOf_24 : decode cX9_placeOf 24 = .ok (.imul, 1) := by decide +kernel
theorem dX9_placeOf_25 : decode cX9_placeOf 25 = .ok (.iconst 4, 1) := by decide +kernel
theorem dX9_placeOf_26 : decode cX9_placeOf 26 = .ok (.iadd, 1) := by decide +kernel
theorem dX9_placeOf_27 : decode cX9_placeOf 27 = .ok (.iload_n 3, 1) := by decide +kernel
theorem dX9_placeOf_28 : decode cX9_placeOf 28 = .ok (.iadd, 1) := by decide +kernel
theorem dX9_placeOf_29 : decode cX9_placeOf 29 = .ok (.iaload, 1) := by decide +kernel
theorem dX9_placeOf_30 : decode cX9_placeOf 30 = .ok (.iload_n 2, 1) := by decide +kernel
theorem dX9_placeOf_31 : decode cX9_placeOf 31 = .ok (.if_icmp .ne 5, 3) := by decide +kernel
theorem dX9_placeOf_34 : decode cX9_placeOf 34 = .ok (.iload_n 3, 1) := by decide +kernel
theorem dX9_placeOf_35 : decode cX9_placeOf 35 = .ok (.ireturn, 1) := by decide +kernel
theorem dX9_placeOf_36 : decode cX9_placeOf 36 = .ok (.iinc 3 1, 3) := by decide +kernel
theorem dX9_placeOf_39 : decode cX9_placeOf 39 = .ok (.goto (-37), 3) := by decide +kernel
theorem dX9_placeOf_42 : decode cX9_placeOf 42 = .ok (.ldc 74, 2) := by decide +kernel
theorem dX9_placeOf_44 : decode cX9_placeOf 44 = .ok (.ireturn, 1) := by decide +kernel
theorem dX9_come_0 : decode cX9_come 0 = .ok (.bipush 12, 2) := by decide +kernel
theorem dX9_come_2 : decode cX9_come 2 = .ok (.iload_n 1, 1) := by decide +kernel
theorem dX9_come_3 : decode cX9_come 3 = .ok (.imul, 1) := by decide +kernel
theorem dX9_come_4 : decode cX9_come 4 = .ok (.istore_n 3, 1) := by decide +kernel
theorem dX9_come_5 : decode cX9_come 5 = .ok (.iload_n 2, 1) := by decide +kernel
theorem dX9_come_6 : decode cX9_come 6 = .ok (.sipush 1000, 3) := by decide +kernel
theorem dX9_come_9 : decode cX9_come 9 = .ok (.if_icmp .ne 16, 3) := by decide +kernel
theorem dX9_come_12 : decode cX9_come 12 = .ok (.aload_n 0, 1) := by decide +kernel
theorem dX9_come_13 : decode cX9_come 13 = .ok (.getfield 16, 3) := by decide +kernel
theorem dX9_come_16 : decode cX9_come 16 = .ok (.iload_n 3, 1) := by decide +kernel
theorem dX9_come_17 : decode cX9_come 17 = .ok (.iconst 2, 1) := by decide +kernel
theorem dX9_come_18 : decode cX9_come 18 = .ok (.iadd, 1) := by decide +kernel
theorem dX9_come_19 : decode cX9_come 19 = .ok (.dup2, 1) := by decide +kernel
theorem dX9_come_20 : decode cX9_come 20 = .ok (.iaload, 1) := by decide +kernel
theorem dX9_come_21 : decode cX9_come 21 = .ok (.iconst 1, 1) := by decide +kernel
theorem dX9_come_22 : decode cX9_come 22 = .ok (.iadd, 1) := by decide +kernel
theorem dX9_come_23 : decode cX9_come 23 = .ok (.iastore, 1) := by decide +kernel
theorem dX9_come_24 : decode cX9_come 24 = .ok (.return_, 1) := by decide +kernel
theorem dX9_come_25 : decode cX9_come 25 = .ok (.aload_n 0, 1) := by decide +kernel
theorem dX9_come_26 : decode cX9_come 26 = .ok (.getfield 16, 3) := by decide +kernel
theorem dX9_come_29 : decode cX9_come 29 = .ok (.iload_n 3, 1) := by decide +kernel
theorem dX9_come_30 : decode cX9_come 30 = .ok (.aload_n 0, 1) := by decide +kernel
theorem dX9_come_31 : decode cX9_come 31 = .ok (.getfield 16, 3) := by decide +kernel
theorem dX9_come_34 : decode cX9_come 34 = .ok (.iload_n 3, 1) := by decide +kernel
theorem dX9_come_35 : decode cX9_come 35 = .ok (.iaload, 1) := by decide +kernel
theorem dX9_come_36 : decode cX9_come 36 = .ok (.ldc 74, 2) := by decide +kernel
theorem dX9_come_38 : decode cX9_come 38 = .ok (.if_icmp .eq 13, 3) := by decide +kernel
theorem dX9_come_41 : decode cX9_come 41 = .ok (.iload_n 2, 1) := by decide +kernel
theorem dX9_come_42 : decode cX9_come 42 = .ok (.aload_n 0, 1) := by decide +kernel
theorem dX9_come_43 : decode cX9_come 43 = .ok (.getfield 16, 3) := by decide +kernel
theorem dX9_come_46 : decode cX9_come 46 = .ok (.iload_n 3, 1) := by decide +kernel
theorem dX9_come_47 : decode cX9_come 47 = .ok (.iaload, 1) := by decide +kernel
theorem dX9_come_48 : decode cX9_come 48 = .ok (.if_icmp .ge 7, 3) := by decide +kernel
theorem dX9_come_51 : decode cX9_come 51 = .ok (.iload_n 2, 1) := by decide +kernel
theorem dX9_come_52 : decode cX9_come 52 = .ok (.goto 9, 3) := by decide +kernel
theorem dX9_come_55 : decode cX9_come 55 = .ok (.aload_n 0, 1) := by decide +kernel
theorem dX9_come_56 : decode cX9_come 56 = .ok (.getfield 16, 3) := by decide +kernel
theorem dX9_come_59 : decode cX9_come 59 = .ok (.iload_n 3, 1) := by decide +kernel
theorem dX9_come_60 : decode cX9_come 60 = .ok (.iaload, 1) := by decide +kernel
theorem dX9_come_61 : decode cX9_come 61 = .ok (.iastore, 1) := by decide +kernel
theorem dX9_come_62 : decode cX9_come 62 = .ok (.aload_n 0, 1) := by decide +kernel
theorem dX9_come_63 : decode cX9_come 63 = .ok (.getfield 16, 3) := by decide +kernel
theorem dX9_come_66 : decode cX9_come 66 = .ok (.iload_n 3, 1) := by decide +kernel
theorem dX9_come_67 : decode cX9_come 67 = .ok (.iconst 1, 1) := by decide +kernel
theorem dX9_come_68 : decode cX9_come 68 = .ok (.iadd, 1) := by decide +kernel
theorem dX9_come_69 : decode cX9_come 69 = .ok (.aload_n 0, 1) := by decide +kernel
theorem dX9_come_70 : decode cX9_come 70 = .ok (.getfield 16, 3) := by decide +kernel
theorem dX9_come_73 : decode cX9_come 73 = .ok (.iload_n 3, 1) := by decide +kernel
theorem dX9_come_74 : decode cX9_come 74 = .ok (.iconst 1, 1) := by decide +kernel
theorem dX9_come_75 : decode cX9_come 75 = .ok (.iadd, 1) := by decide +kernel
theorem dX9_come_76 : decode cX9_come 76 = .ok (.iaload, 1) := by decide +kernel
theorem dX9_come_77 : decode cX9_come 77 = .ok (.ldc 74, 2) := by decide +kernel
theorem dX9_come_79 : decode cX9_come 79 = .ok (.if_icmp .eq 15, 3) := by decide +kernel
theorem dX9_come_82 : decode cX9_come 82 = .ok (.iload_n 2, 1) := by decide +kernel
theorem dX9_come_83 : decode cX9_come 83 = .ok (.aload_n 0, 1) := by decide +kernel
theorem dX9_come_84 : decode cX9_come 84 = .ok (.getfield 16, 3) := by decide +kernel
theorem dX9_come_87 : decode cX9_come 87 = .ok (.iload_n 3, 1) := by decide +kernel
theorem dX9_come_88 : decode cX9_come 88 = .ok (.iconst 1, 1) := by decide +kernel
theorem dX9_come_89 : decode cX9_come 89 = .ok (.iadd, 1) := by decide +kernel
theorem dX9_come_90 : decode cX9_come 90 = .ok (.iaload, 1) := by decide +kernel
theorem dX9_come_91 : decode cX9_come 91 = .ok (.if_icmp .le 7, 3) := by decide +kernel
theorem dX9_come_94 : decode cX9_come 94 = .ok (.iload_n 2, 1) := by decide +kernel
theorem dX9_come_95 : decode cX9_come 95 = .ok (.goto 11, 3) := by decide +kernel
theorem dX9_come_98 : decode cX9_come 98 = .ok (.aload_n 0, 1) := by decide +kernel
theorem dX9_come_99 : decode cX9_come 99 = .ok (.getfield 16, 3) := by decide +kernel
theorem dX9_come_102 : decode cX9_come 102 = .ok (.iload_n 3, 1) := by decide +kernel
theorem dX9_come_103 : decode cX9_come 103 = .ok (.iconst 1, 1) := by decide +kernel
theorem dX9_come_104 : decode cX9_come 104 = .ok (.iadd, 1) := by decide +kernel
theorem dX9_come_105 : decode cX9_come 105 = .ok (.iaload, 1) := by decide +kernel
theorem dX9_come_106 : decode cX9_come 106 = .ok (.iastore, 1) := by decide +kernel
theorem dX9_come_107 : decode cX9_come 107 = .ok (.aload_n 0, 1) := by decide +kernel
theorem dX9_come_108 : decode cX9_come 108 = .ok (.getfield 16, 3) := by decide +kernel
theorem dX9_come_111 : decode cX9_come 111 = .ok (.iload_n 3, 1) := by decide +kernel
theorem dX9_come_112 : decode cX9_come 112 = .ok (.iconst 3, 1) := by decide +kernel
theorem dX9_come_113 : decode cX9_come 113 = .ok (.iadd, 1) := by decide +kernel
theorem dX9_come_114 : decode cX9_come 114 = .ok (.iaload, 1) := by decide +kernel
theorem dX9_come_115 : decode cX9_come 115 = .ok (.ifCond .ge 4, 3) := by decide +kernel
theorem dX9_come_118 : decode cX9_come 118 = .ok (.return_, 1) := by decide +kernel
theorem dX9_come_119 : decode cX9_come 119 = .ok (.aload_n 0, 1) := by decide +kernel
theorem dX9_come_120 : decode cX9_come 120 = .ok (.iload_n 1, 1) := by decide +kernel
theorem dX9_come_121 : decode cX9_come 121 = .ok (.iload_n 2, 1) := by decide +kernel
theorem dX9_come_122 : decode cX9_come 122 = .ok (.invokevirtual 75, 3) := by decide +kernel
theorem dX9_come_125 : decode cX9_come 125 = .ok (.istore 4, 2) := by decide +kernel
theorem dX9_come_127 : decode cX9_come 127 = .ok (.iload 4, 2) := by decide +kernel
theorem dX9_come_129 : decode cX9_come 129 = .ok (.ifCond .lt 22, 3) := by decide +kernel
theorem dX9_come_132 : decode cX9_come 132 = .ok (.aload_n 0, 1) := by decide +kernel
theorem dX9_come_133 : decode cX9_come 133 = .ok (.getfield 16, 3) := by decide +kernel
theorem dX9_come_136 : decode cX9_come 136 = .ok (.iload_n 3, 1) := by decide +kernel
theorem dX9_come_137 : decode cX9_come 137 = .ok (.bipush 8, 2) := by decide +kernel
theorem dX9_come_139 : decode cX9_come 139 = .ok (.iadd, 1) := by decide +kernel
theorem dX9_come_140 : decode cX9_come 140 = .ok (.iload 4, 2) := by decide +kernel
theorem dX9_come_142 : decode cX9_come 142 = .ok (.iadd, 1) := by decide +kernel
theorem dX9_come_143 : decode cX9_come 143 = .ok (.dup2, 1) := by decide +kernel
theorem dX9_come_144 : decode cX9_come 144 = .ok (.iaload, 1) := by decide +kernel
theorem dX9_come_145 : decode cX9_come 145 = .ok (.iconst 1, 1) := by decide +kernel
theorem dX9_come_146 : decode cX9_come 146 = .ok (.iadd, 1) := by decide +kernel
theorem dX9_come_147 : decode cX9_come 147 = .ok (.iastore, 1) := by decide +kernel
theorem dX9_come_148 : decode cX9_come 148 = .ok (.goto 76, 3) := by decide +kernel
theorem dX9_come_151 : decode cX9_come 151 = .ok (.aload_n 0, 1) := by decide +kernel
theorem dX9_come_152 : decode cX9_come 152 = .ok (.getfield 16, 3) := by decide +kernel
theorem dX9_come_155 : decode cX9_come 155 = .ok (.iload_n 3, 1) := by decide +kernel
theorem dX9_come_156 : decode cX9_come 156 = .ok (.iconst 3, 1) := by decide +kernel
theorem dX9_come_157 : decode cX9_come 157 = .ok (.iadd, 1) := by decide +kernel
theorem dX9_come_158 : decode cX9_come 158 = .ok (.iaload, 1) := by decide +kernel
theorem dX9_come_159 : decode cX9_come 159 = .ok (.iconst 4, 1) := by decide +kernel
theorem dX9_come_160 : decode cX9_come 160 = .ok (.if_icmp .ne 15, 3) := by decide +kernel
theorem dX9_come_163 : decode cX9_come 163 = .ok (.aload_n 0, 1) := by decide +kernel
theorem dX9_come_164 : decode cX9_come 164 = .ok (.getfield 16, 3) := by decide +kernel
theorem dX9_come_167 : decode cX9_come 167 = .ok (.iload_n 3, 1) := by decide +kernel
theorem dX9_come_168 : decode cX9_come 168 = .ok (.iconst 3, 1) := by decide +kernel
theorem dX9_come_169 : decode cX9_come 169 = .ok (.iadd, 1) := by decide +kernel
theorem dX9_come_170 : decode cX9_come 170 = .ok (.iconst (-1), 1) := by decide +kernel
theorem dX9_come_171 : decode cX9_come 171 = .ok (.iastore, 1) := by decide +kernel
theorem dX9_come_172 : decode cX9_come 172 = .ok (.goto 52, 3) := by decide +kernel
theorem dX9_come_175 : decode cX9_come 175 = .ok (.aload_n 0, 1) := by decide +kernel
theorem dX9_come_176 : decode cX9_come 176 = .ok (.getfield 16, 3) := by decide +kernel
theorem dX9_come_179 : decode cX9_come 179 = .ok (.iload_n 3, 1) := by decide +kernel
theorem dX9_come_180 : decode cX9_come 180 = .ok (.iconst 4, 1) := by decide +kernel
theorem dX9_come_181 : decode cX9_come 181 = .ok (.iadd, 1) := by decide +kernel
theorem dX9_come_182 : decode cX9_come 182 = .ok (.aload_n 0, 1) := by decide +kernel
theorem dX9_come_183 : decode cX9_come 183 = .ok (.getfield 16, 3) := by decide +kernel
theorem dX9_come_186 : decode cX9_come 186 = .ok (.iload_n 3, 1) := by decide +kernel
theorem dX9_come_187 : decode cX9_come 187 = .ok (.iconst 3, 1) := by decide +kernel
theorem dX9_come_188 : decode cX9_come 188 = .ok (.iadd, 1) := by decide +kernel
theorem dX9_come_189 : decode cX9_come 189 = .ok (.iaload, 1) := by decide +kernel
theorem dX9_come_190 : decode cX9_come 190 = .ok (.iadd, 1) := by decide +kernel
theorem dX9_come_191 : decode cX9_come 191 = .ok (.iload_n 2, 1) := by decide +kernel
theorem dX9_come_192 : decode cX9_come 192 = .ok (.iastore, 1) := by decide +kernel
theorem dX9_come_193 : decode cX9_come 193 = .ok (.aload_n 0, 1) := by decide +kernel
theorem dX9_come_194 : decode cX9_come 194 = .ok (.getfield 16, 3) := by decide +kernel
theorem dX9_come_197 : decode cX9_come 197 = .ok (.iload_n 3, 1) := by decide +kernel
theorem dX9_come_198 : decode cX9_come 198 = .ok (.bipush 8, 2) := by decide +kernel
theorem dX9_come_200 : decode cX9_come 200 = .ok (.iadd, 1) := by decide +kernel
theorem dX9_come_201 : decode cX9_come 201 = .ok (.aload_n 0, 1) := by decide +kernel
theorem dX9_come_202 : decode cX9_come 202 = .ok (.getfield 16, 3) := by decide +kernel
theorem dX9_come_205 : decode cX9_come 205 = .ok (.iload_n 3, 1) := by decide +kernel
theorem dX9_come_206 : decode cX9_come 206 = .ok (.iconst 3, 1) := by decide +kernel
theorem dX9_come_207 : decode cX9_come 207 = .ok (.iadd, 1) := by decide +kernel
theorem dX9_come_208 : decode cX9_come 208 = .ok (.iaload, 1) := by decide +kernel
theorem dX9_come_209 : decode cX9_come 209 = .ok (.iadd, 1) := by decide +kernel
theorem dX9_come_210 : decode cX9_come 210 = .ok (.iconst 1, 1) := by decide +kernel
theorem dX9_come_211 : decode cX9_come 211 = .ok (.iastore, 1) := by decide +kernel
theorem dX9_come_212 : decode cX9_come 212 = .ok (.aload_n 0, 1) := by decide +kernel
theorem dX9_come_213 : decode cX9_come 213 = .ok (.getfield 16, 3) := by decide +kernel
theorem dX9_come_216 : decode cX9_come 216 = .ok (.iload_n 3, 1) := by decide +kernel
theorem dX9_come_217 : decode cX9_come 217 = .ok (.iconst 3, 1) := by decide +kernel
theorem dX9_come_218 : decode cX9_come 218 = .ok (.iadd, 1) := by decide +kernel
theorem dX9_come_219 : decode cX9_come 219 = .ok (.dup2, 1) := by decide +kernel
theorem dX9_come_220 : decode cX9_come 220 = .ok (.iaload, 1) := by decide +kernel
theorem dX9_come_221 : decode cX9_come 221 = .ok (.iconst 1, 1) := by decide +kernel
theorem dX9_come_222 : decode cX9_come 222 = .ok (.iadd, 1) := by decide +kernel
theorem dX9_come_223 : decode cX9_come 223 = .ok (.iastore, 1) := by decide +kernel
theorem dX9_come_224 : decode cX9_come 224 = .ok (.return_, 1) := by decide +kernel
theorem dX9_add_0 : decode cX9_add 0 = .ok (.iload_n 1, 1) := by decide +kernel
theorem dX9_add_1 : decode cX9_add 1 = .ok (.invokestatic 70, 3) := by decide +kernel
theorem dX9_add_4 : decode cX9_add 4 = .ok (.ifCond .ne 5, 3) := by decide +kernel
theorem dX9_add_7 : decode cX9_add 7 = .ok (.iconst (-1), 1) := by decide +kernel
theorem dX9_add_8 : decode cX9_add 8 = .ok (.ireturn, 1) := by decide +kernel
theorem dX9_add_9 : decode cX9_add 9 = .ok (.iload_n 2, 1) := by decide +kernel
theorem dX9_add_10 : decode cX9_add 10 = .ok (.sipush (-999), 3) := by decide +kernel
theorem dX9_add_13 : decode cX9_add 13 = .ok (.sipush 1000, 3) := by decide +kernel
theorem dX9_add_16 : decode cX9_add 16 = .ok (.invokestatic 66, 3) := by decide +kernel
theorem dX9_add_19 : decode cX9_add 19 = .ok (.ifCond .eq 44, 3) := by decide +kernel
theorem dX9_add_22 : decode cX9_add 22 = .ok (.iload_n 3, 1) := by decide +kernel
theorem dX9_add_23 : decode cX9_add 23 = .ok (.sipush (-999), 3) := by decide +kernel
theorem dX9_add_26 : decode cX9_add 26 = .ok (.sipush 1000, 3) := by decide +kernel
theorem dX9_add_29 : decode cX9_add 29 = .ok (.invokestatic 66, 3) := by decide +kernel
theorem dX9_add_32 : decode cX9_add 32 = .ok (.ifCond .eq 31, 3) := by decide +kernel
theorem dX9_add_35 : decode cX9_add 35 = .ok (.iload 4, 2) := by decide +kernel
theorem dX9_add_37 : decode cX9_add 37 = .ok (.sipush (-999), 3) := by decide +kernel
theorem dX9_add_40 : decode cX9_add 40 = .ok (.sipush 1000, 3) := by decide +kernel
theorem dX9_add_43 : decode cX9_add 43 = .ok (.invokestatic 66, 3) := by decide +kernel
theorem dX9_add_46 : decode cX9_add 46 = .ok (.ifCond .eq 17, 3) := by decide +kernel
theorem dX9_add_49 : decode cX9_add 49 = .ok (.iload 5, 2) := by decide +kernel
theorem dX9_add_51 : decode cX9_add 51 = .ok (.sipush (-999), 3) := by decide +kernel
theorem dX9_add_54 : decode cX9_add 54 = .ok (.sipush 1000, 3) := by decide +kernel
theorem dX9_add_57 : decode cX9_add 57 = .ok (.invokestatic 66, 3) := by decide +kernel
theorem dX9_add_60 : decode cX9_add 60 = .ok (.ifCond .ne 6, 3) := by decide +kernel
theorem dX9_add_63 : decode cX9_add 63 = .ok (.bipush (-2), 2) := by decide +kernel
theorem dX9_add_65 : decode cX9_add 65 = .ok (.ireturn, 1) := by decide +kernel
theorem dX9_add_66 : decode cX9_add 66 = .ok (.aload_n 0, 1) := by decide +kernel
theorem dX9_add_67 : decode cX9_add 67 = .ok (.getfield 13, 3) := by decide +kernel
theorem dX9_add_70 : decode cX9_add 70 = .ok (.iload_n 1, 1) := by decide +kernel
theorem dX9_add_71 : decode cX9_add 71 = .ok (.iaload, 1) := by decide +kernel
theorem dX9_add_72 : decode cX9_add 72 = .ok (.bipush 8, 2) := by decide +kernel
theorem dX9_add_74 : decode cX9_add 74 = .ok (.if_icmp .ne 6, 3) := by decide +kernel
theorem dX9_add_77 : decode cX9_add 77 = .ok (.bipush (-4), 2) := by decide +kernel
theorem dX9_add_79 : decode cX9_add 79 = .ok (.ireturn, 1) := by decide +kernel
theorem dX9_add_80 : decode cX9_add 80 = .ok (.iconst 0, 1) := by decide +kernel
theorem dX9_add_81 : decode cX9_add 81 = .ok (.istore 6, 2) := by decide +kernel
theorem dX9_add_83 : decode cX9_add 83 = .ok (.iload 6, 2) := by decide +kernel
theorem dX9_add_85 : decode cX9_add 85 = .ok (.iconst 4, 1) := by decide +kernel
theorem dX9_add_86 : decode cX9_add 86 = .ok (.if_icmp .ge 78, 3) := by decide +kernel
theorem dX9_add_89 : decode cX9_add 89 = .ok (.iload 6, 2) := by decide +kernel
theorem dX9_add_91 : decode cX9_add 91 = .ok (.ifCond .ne 7, 3) := by decide +kernel
theorem dX9_add_94 : decode cX9_add 94 = .ok (.iload_n 2, 1) := by decide +kernel
theorem dX9_add_95 : decode cX9_add 95 = .ok (.goto 26, 3) := by decide +kernel
theorem dX9_add_98 : decode cX9_add 98 = .ok (.iload 6, 2) := by decide +kernel
theorem dX9_add_100 : decode cX9_add 100 = .ok (.iconst 1, 1) := by decide +kernel
theorem dX9_add_101 : decode cX9_add 101 = .ok (.if_icmp .ne 7, 3) := by decide +kernel
theorem dX9_add_104 : decode cX9_add 104 = .ok (.iload_n 3, 1) := by decide +kernel
theorem dX9_add_105 : decode cX9_add 105 = .ok (.goto 16, 3) := by decide +kernel
theorem dX9_add_108 : decode cX9_add 108 = .ok (.iload 6, 2) := by decide +kernel
theorem dX9_add_110 : decode cX9_add 110 = .ok (.iconst 2, 1) := by decide +kernel
theorem dX9_add_111 : decode cX9_add 111 = .ok (.if_icmp .ne 8, 3) := by decide +kernel
theorem dX9_add_114 : decode cX9_add 114 = .ok (.iload 4, 2) := by decide +kernel
theorem dX9_add_116 : decode cX9_add 116 = .ok (.goto 5, 3) := by decide +kernel
theorem dX9_add_119 : decode cX9_add 119 = .ok (.iload 5, 2) := by decide +kernel
theorem dX9_add_121 : decode cX9_add 121 = .ok (.istore 7, 2) := by decide +kernel
theorem dX9_add_123 : decode cX9_add 123 = .ok (.aload_n 0, 1) := by decide +kernel
theorem dX9_add_124 : decode cX9_add 124 = .ok (.getfield 7, 3) := by decide +kernel
theorem dX9_add_127 : decode cX9_add 127 = .ok (.bipush 32, 2) := by decide +kernel
theorem dX9_add_129 : decode cX9_add 129 = .ok (.iload_n 1, 1) := by decide +kernel
theorem dX9_add_130 : decode cX9_add 130 = .ok (.imul, 1) := by decide +kernel
theorem dX9_add_131 : decode cX9_add 131 = .ok (.iconst 4, 1) := by decide +kernel
theorem dX9_add_132 : decode cX9_add 132 = .ok (.aload_n 0, 1) := by decide +kernel
theorem dX9_add_133 : decode cX9_add 133 = .ok (.getfield 13, 3) := by decide +kernel
theorem dX9_add_136 : decode cX9_add 136 = .ok (.iload_n 1, 1) := by decide +kernel
theorem dX9_add_137 : decode cX9_add 137 = .ok (.iaload, 1) := by decide +kernel
theorem dX9_add_138 : decode cX9_add 138 = .ok (.imul, 1) := by decide +kernel
theorem dX9_add_139 : decode cX9_add 139 = .ok (.iadd, 1) := by decide +kernel
theorem dX9_add_140 : decode cX9_add 140 = .ok (.iload 6, 2) := by decide +kernel
theorem dX9_add_142 : decode cX9_add 142 = .ok (.iadd, 1) := by decide +kernel
theorem dX9_add_143 : decode cX9_add 143 = .ok (.iload 7, 2) := by decide +kernel
theorem dX9_add_145 : decode cX9_add 145 = .ok (.iastore, 1) := by decide +kernel
theorem dX9_add_146 : decode cX9_add 146 = .ok (.aload_n 0, 1) := by decide +kernel
theorem dX9_add_147 : decode cX9_add 147 = .ok (.iconst 4, 1) := by decide +kernel
theorem dX9_add_148 : decode cX9_add 148 = .ok (.iload_n 1, 1) := by decide +kernel
theorem dX9_add_149 : decode cX9_add 149 = .ok (.imul, 1) := by decide +kernel
theorem dX9_add_150 : decode cX9_add 150 = .ok (.iload 6, 2) := by decide +kernel
theorem dX9_add_152 : decode cX9_add 152 = .ok (.iadd, 1) := by decide +kernel
theorem dX9_add_153 : decode cX9_add 153 = .ok (.iload 7, 2) := by decide +kernel
theorem dX9_add_155 : decode cX9_add 155 = .ok (.invokevirtual 79, 3) := by decide +kernel
theorem dX9_add_158 : decode cX9_add 158 = .ok (.iinc 6 1, 3) := by decide +kernel
theorem dX9_add_161 : decode cX9_add 161 = .ok (.goto (-78), 3) := by decide +kernel
theorem dX9_add_164 : decode cX9_add 164 = .ok (.aload_n 0, 1) := by decide +kernel
theorem dX9_add_165 : decode cX9_add 165 = .ok (.getfield 13, 3) := by decide +kernel
theorem dX9_add_168 : decode cX9_add 168 = .ok (.iload_n 1, 1) := by decide +kernel
theorem dX9_add_169 : decode cX9_add 169 = .ok (.dup2, 1) := by decide +kernel
theorem dX9_add_170 : decode cX9_add 170 = .ok (.iaload, 1) := by decide +kernel
theorem dX9_add_171 : decode cX9_add 171 = .ok (.iconst 1, 1) := by decide +kernel
theorem dX9_add_172 : decode cX9_add 172 = .ok (.iadd, 1) := by decide +kernel
theorem dX9_add_173 : decode cX9_add 173 = .ok (.iastore, 1) := by decide +kernel
theorem dX9_add_174 : decode cX9_add 174 = .ok (.aload_n 0, 1) := by decide +kernel
theorem dX9_add_175 : decode cX9_add 175 = .ok (.getfield 13, 3) := by decide +kernel
theorem dX9_add_178 : decode cX9_add 178 = .ok (.iload_n 1, 1) := by decide +kernel
theorem dX9_add_179 : decode cX9_add 179 = .ok (.iaload, 1) := by decide +kernel
theorem dX9_add_180 : decode cX9_add 180 = .ok (.ireturn, 1) := by decide +kernel
theorem dX9_drop_0 : decode cX9_drop 0 = .ok (.aload_n 0, 1) := by decide +kernel
theorem dX9_drop_1 : decode cX9_drop 1 = .ok (.iload_n 1, 1) := by decide +kernel
theorem dX9_drop_2 : decode cX9_drop 2 = .ok (.iload_n 2, 1) := by decide +kernel
theorem dX9_drop_3 : decode cX9_drop 3 = .ok (.invokevirtual 83, 3) := by decide +kernel
theorem dX9_drop_6 : decode cX9_drop 6 = .ok (.ifCond .ne 5, 3) := by decide +kernel
theorem dX9_drop_9 : decode cX9_drop 9 = .ok (.iconst (-1), 1) := by decide +kernel
theorem dX9_drop_10 : decode cX9_drop 10 = .ok (.ireturn, 1) := by decide +kernel
theorem dX9_drop_11 : decode cX9_drop 11 = .ok (.iconst 0, 1) := by decide +kernel
theorem dX9_drop_12 : decode cX9_drop 12 = .ok (.istore_n 3, 1) := by decide +kernel
theorem dX9_drop_13 : decode cX9_drop 13 = .ok (.iload_n 3, 1) := by decide +kernel
theorem dX9_drop_14 : decode cX9_drop 14 = .ok (.iconst 4, 1) := by decide +kernel
theorem dX9_drop_15 : decode cX9_drop 15 = .ok (.if_icmp .ge 93, 3) := by decide +kernel
theorem dX9_drop_18 : decode cX9_drop 18 = .ok (.iconst 4, 1) := by decide +kernel
theorem dX9_drop_19 : decode cX9_drop 19 = .ok (.iload_n 1, 1) := by decide +kernel
theorem dX9_drop_20 : decode cX9_drop 20 = .ok (.imul, 1) := by decide +kernel
theorem dX9_drop_21 : decode cX9_drop 21 = .ok (.iload_n 3, 1) := by decide +kernel
theorem dX9_drop_22 : decode cX9_drop 22 = .ok (.iadd, 1) := by decide +kernel
theorem dX9_drop_23 : decode cX9_drop 23 = .ok (.istore 4, 2) := by decide +kernel
theorem dX9_drop_25 : decode cX9_drop 25 = .ok (.aload_n 0, 1) := by decide +kernel
theorem dX9_drop_26 : decode cX9_drop 26 = .ok (.iload_n 1, 1) := by decide +kernel
theorem dX9_drop_27 : decode cX9_drop 27 = .ok (.iload_n 2, 1) := by decide +kernel
theorem dX9_drop_28 : decode cX9_drop 28 = .ok (.iload_n 3, 1) := by decide +kernel
theorem dX9_drop_29 : decode cX9_drop 29 = .ok (.invokevirtual 87, 3) := by decide +kernel
theorem dX9_drop_32 : decode cX9_drop 32 = .ok (.istore 5, 2) := by decide +kernel
theorem dX9_drop_34 : decode cX9_drop 34 = .ok (.iload 5, 2) := by decide +kernel
theorem dX9_drop_36 : decode cX9_drop 36 = .ok (.sipush 1000, 3) := by decide +kernel
theorem dX9_drop_39 : decode cX9_drop 39 = .ok (.if_icmp .ne 22, 3) := by decide +kernel
theorem dX9_drop_42 : decode cX9_drop 42 = .ok (.aload_n 0, 1) := by decide +kernel
theorem dX9_drop_43 : decode cX9_drop 43 = .ok (.getfield 16, 3) := by decide +kernel
theorem dX9_drop_46 : decode cX9_drop 46 = .ok (.bipush 12, 2) := by decide +kernel
theorem dX9_drop_48 : decode cX9_drop 48 = .ok (.iload 4, 2) := by decide +kernel
theorem dX9_drop_50 : decode cX9_drop 50 = .ok (.imul, 1) := by decide +kernel
theorem dX9_drop_51 : decode cX9_drop 51 = .ok (.iconst 2, 1) := by decide +kernel
theorem dX9_drop_52 : decode cX9_drop 52 = .ok (.iadd, 1) := by decide +kernel
theorem dX9_drop_53 : decode cX9_drop 53 = .ok (.dup2, 1) := by decide +kernel
theorem dX9_drop_54 : decode cX9_drop 54 = .ok (.iaload, 1) := by decide +kernel
theorem dX9_drop_55 : decode cX9_drop 55 = .ok (.iconst 1, 1) := by decide +kernel
theorem dX9_drop_56 : decode cX9_drop 56 = .ok (.isub, 1) := by decide +kernel
theorem dX9_drop_57 : decode cX9_drop 57 = .ok (.iastore, 1) := by decide +kernel
theorem dX9_drop_58 : decode cX9_drop 58 = .ok (.goto 44, 3) := by decide +kernel
theorem dX9_drop_61 : decode cX9_drop 61 = .ok (.aload_n 0, 1) := by decide +kernel
theorem dX9_drop_62 : decode cX9_drop 62 = .ok (.getfield 16, 3) := by decide +kernel
theorem dX9_drop_65 : decode cX9_drop 65 = .ok (.bipush 12, 2) := by decide +kernel
theorem dX9_drop_67 : decode cX9_drop 67 = .ok (.iload 4, 2) := by decide +kernel
theorem dX9_drop_69 : decode cX9_drop 69 = .ok (.imul, 1) := by decide +kernel
theorem dX9_drop_70 : decode cX9_drop 70 = .ok (.iconst 3, 1) := by decide +kernel
theorem dX9_drop_71 : decode cX9_drop 71 = .ok (.iadd, 1) := by decide +kernel
theorem dX9_drop_72 : decode cX9_drop 72 = .ok (.iaload, 1) := by decide +kernel
theorem dX9_drop_73 : decode cX9_drop 73 = .ok (.ifCond .lt 29, 3) := by decide +kernel
theorem dX9_drop_76 : decode cX9_drop 76 = .ok (.aload_n 0, 1) := by decide +kernel
theorem dX9_drop_77 : decode cX9_drop 77 = .ok (.getfield 16, 3) := by decide +kernel
theorem dX9_drop_80 : decode cX9_drop 80 = .ok (.bipush 12, 2) := by decide +kernel
theorem dX9_drop_82 : decode cX9_drop 82 = .ok (.iload 4, 2) := by decide +kernel
theorem dX9_drop_84 : decode cX9_drop 84 = .ok (.imul, 1) := by decide +kernel
theorem dX9_drop_85 : decode cX9_drop 85 = .ok (.bipush 8, 2) := by decide +kernel
theorem dX9_drop_87 : decode cX9_drop 87 = .ok (.iadd, 1) := by decide +kernel
theorem dX9_drop_88 : decode cX9_drop 88 = .ok (.aload_n 0, 1) := by decide +kernel
theorem dX9_drop_89 : decode cX9_drop 89 = .ok (.iload 4, 2) := by decide +kernel
theorem dX9_drop_91 : decode cX9_drop 91 = .ok (.iload 5, 2) := by decide +kernel
theorem dX9_drop_93 : decode cX9_drop 93 = .ok (.invokevirtual 75, 3) := by decide +kernel
theorem dX9_drop_96 : decode cX9_drop 96 = .ok (.iadd, 1) := by decide +kernel
theorem dX9_drop_97 : decode cX9_drop 97 = .ok (.dup2, 1) := by decide +kernel
theorem dX9_drop_98 : decode cX9_drop 98 = .ok (.iaload, 1) := by decide +kernel
theorem dX9_drop_99 : decode cX9_drop 99 = .ok (.iconst 1, 1) := by decide +kernel
theorem dX9_drop_100 : decode cX9_drop 100 = .ok (.isub, 1) := by decide +kernel
theorem dX9_drop_101 : decode cX9_drop 101 = .ok (.iastore, 1) := by decide +kernel
theorem dX9_drop_102 : decode cX9_drop 102 = .ok (.iinc 3 1, 3) := by decide +kernel
theorem dX9_drop_105 : decode cX9_drop 105 = .ok (.goto (-92), 3) := by decide +kernel
theorem dX9_drop_108 : decode cX9_drop 108 = .ok (.aload_n 0, 1) := by decide +kernel
theorem dX9_drop_109 : decode cX9_drop 109 = .ok (.getfield 13, 3) := by decide +kernel
theorem dX9_drop_112 : decode cX9_drop 112 = .ok (.iload_n 1, 1) := by decide +kernel
theorem dX9_drop_113 : decode cX9_drop 113 = .ok (.dup2, 1) := by decide +kernel
theorem dX9_drop_114 : decode cX9_drop 114 = .ok (.iaload, 1) := by decide +kernel
theorem dX9_drop_115 : decode cX9_drop 115 = .ok (.iconst 1, 1) := by decide +kernel
theorem dX9_drop_116 : decode cX9_drop 116 = .ok (.isub, 1) := by decide +kernel
theorem dX9_drop_117 : decode cX9_drop 117 = .ok (.iastore, 1) := by decide +kernel
theorem dX9_drop_118 : decode cX9_drop 118 = .ok (.bipush 32, 2) := by decide +kernel
theorem dX9_drop_120 : decode cX9_drop 120 = .ok (.iload_n 1, 1) := by decide +kernel
theorem dX9_drop_121 : decode cX9_drop 121 = .ok (.imul, 1) := by decide +kernel
theorem dX9_drop_122 : decode cX9_drop 122 = .ok (.iconst 4, 1) := by decide +kernel
theorem dX9_drop_123 : decode cX9_drop 123 = .ok (.iload_n 2, 1) := by decide +kernel
theorem dX9_drop_124 : decode cX9_drop 124 = .ok (.imul, 1) := by decide +kernel
theorem dX9_drop_125 : decode cX9_drop 125 = .ok (.iadd, 1) := by decide +kernel
theorem dX9_drop_126 : decode cX9_drop 126 = .ok (.istore_n 3, 1) := by decide +kernel
theorem dX9_drop_127 : decode cX9_drop 127 = .ok (.iload_n 3, 1) := by decide +kernel
theorem dX9_drop_128 : decode cX9_drop 128 = .ok (.bipush 32, 2) := by decide +kernel
theorem dX9_drop_130 : decode cX9_drop 130 = .ok (.iload_n 1, 1) := by decide +kernel
theorem dX9_drop_131 : decode cX9_drop 131 = .ok (.imul, 1) := by decide +kernel
theorem dX9_drop_132 : decode cX9_drop 132 = .ok (.iconst 4, 1) := by decide +kernel
theorem dX9_drop_133 : decode cX9_drop 133 = .ok (.aload_n 0, 1) := by decide +kernel
theorem dX9_drop_134 : decode cX9_drop 134 = .ok (.getfield 13, 3) := by decide +kernel
theorem dX9_drop_137 : decode cX9_drop 137 = .ok (.iload_n 1, 1) := by decide +kernel
theorem dX9_drop_138 : decode cX9_drop 138 = .ok (.iaload, 1) := by decide +kernel
theorem dX9_drop_139 : decode cX9_drop 139 = .ok (.imul, 1) := by decide +kernel
theorem dX9_drop_140 : decode cX9_drop 140 = .ok (.iadd, 1) := by decide +kernel
theorem dX9_drop_141 : decode cX9_drop 141 = .ok (.if_icmp .ge 23, 3) := by decide +kernel
theorem dX9_drop_144 : decode cX9_drop 144 = .ok (.aload_n 0, 1) := by decide +kernel
theorem dX9_drop_145 : decode cX9_drop 145 = .ok (.getfield 7, 3) := by decide +kernel
theorem dX9_drop_148 : decode cX9_drop 148 = .ok (.iload_n 3, 1) := by decide +kernel
theorem dX9_drop_149 : decode cX9_drop 149 = .ok (.aload_n 0, 1) := by decide +kernel
theorem dX9_drop_150 : decode cX9_drop 150 = .ok (.getfield 7, 3) := by decide +kernel
theorem dX9_drop_153 : decode cX9_drop 153 = .ok (.iload_n 3, 1) := by decide +kernel
theorem dX9_drop_154 : decode cX9_drop 154 = .ok (.iconst 4, 1) := by decide +kernel
theorem dX9_drop_155 : decode cX9_drop 155 = .ok (.iadd, 1) := by decide +kernel
theorem dX9_drop_156 : decode cX9_drop 156 = .ok (.iaload, 1) := by decide +kernel
theorem dX9_drop_157 : decode cX9_drop 157 = .ok (.iastore, 1) := by decide +kernel
theorem dX9_drop_158 : decode cX9_drop 158 = .ok (.iinc 3 1, 3) := by decide +kernel
theorem dX9_drop_161 : decode cX9_drop 161 = .ok (.goto (-34), 3) := by decide +kernel
theorem dX9_drop_164 : decode cX9_drop 164 = .ok (.aload_n 0, 1) := by decide +kernel
theorem dX9_drop_165 : decode cX9_drop 165 = .ok (.getfield 13, 3) := by decide +kernel
theorem dX9_drop_168 : decode cX9_drop 168 = .ok (.iload_n 1, 1) := by decide +kernel
theorem dX9_drop_169 : decode cX9_drop 169 = .ok (.iaload, 1) := by decide +kernel
theorem dX9_drop_170 : decode cX9_drop 170 = .ok (.ireturn, 1) := by decide +kernel
theorem dX9_makeAnew_0 : decode cX9_makeAnew 0 = .ok (.aload_n 0, 1) := by decide +kernel
theorem dX9_makeAnew_1 : decode cX9_makeAnew 1 = .ok (.iconst 4, 1) := by decide +kernel
theorem dX9_makeAnew_2 : decode cX9_makeAnew 2 = .ok (.iload_n 1, 1) := by decide +kernel
theorem dX9_makeAnew_3 : decode cX9_makeAnew 3 = .ok (.imul, 1) := by decide +kernel
theorem dX9_makeAnew_4 : decode cX9_makeAnew 4 = .ok (.iload_n 2, 1) := by decide +kernel
theorem dX9_makeAnew_5 : decode cX9_makeAnew 5 = .ok (.iadd, 1) := by decide +kernel
theorem dX9_makeAnew_6 : decode cX9_makeAnew 6 = .ok (.invokevirtual 62, 3) := by decide +kernel
theorem dX9_makeAnew_9 : decode cX9_makeAnew 9 = .ok (.iconst 0, 1) := by decide +kernel
theorem dX9_makeAnew_10 : decode cX9_makeAnew 10 = .ok (.istore_n 3, 1) := by decide +kernel
theorem dX9_makeAnew_11 : decode cX9_makeAnew 11 = .ok (.iload_n 3, 1) := by decide +kernel
theorem dX9_makeAnew_12 : decode cX9_makeAnew 12 = .ok (.aload_n 0, 1) := by decide +kernel
theorem dX9_makeAnew_13 : decode cX9_makeAnew 13 = .ok (.getfield 13, 3) := by decide +kernel
theorem dX9_makeAnew_16 : decode cX9_makeAnew 16 = .ok (.iload_n 1, 1) := by decide +kernel
theorem dX9_makeAnew_17 : decode cX9_makeAnew 17 = .ok (.iaload, 1) := by decide +kernel
theorem dX9_makeAnew_18 : decode cX9_makeAnew 18 = .ok (.if_icmp .ge 25, 3) := by decide +kernel
theorem dX9_makeAnew_21 : decode cX9_makeAnew 21 = .ok (.aload_n 0, 1) := by decide +kernel
theorem dX9_makeAnew_22 : decode cX9_makeAnew 22 = .ok (.iconst 4, 1) := by decide +kernel
theorem dX9_makeAnew_23 : decode cX9_makeAnew 23 = .ok (.iload_n 1, 1) := by decide +kernel
theorem dX9_makeAnew_24 : decode cX9_makeAnew 24 = .ok (.imul, 1) := by decide +kernel
theorem dX9_makeAnew_25 : decode cX9_makeAnew 25 = .ok (.iload_n 2, 1) := by decide +kernel
theorem dX9_makeAnew_26 : decode cX9_makeAnew 26 = .ok (.iadd, 1) := by decide +kernel
theorem dX9_makeAnew_27 : decode cX9_makeAnew 27 = .ok (.aload_n 0, 1) := by decide +kernel
theorem dX9_makeAnew_28 : decode cX9_makeAnew 28 = .ok (.iload_n 1, 1) := by decide +kernel
theorem dX9_makeAnew_29 : decode cX9_makeAnew 29 = .ok (.iload_n 3, 1) := by decide +kernel
theorem dX9_makeAnew_30 : decode cX9_makeAnew 30 = .ok (.iload_n 2, 1) := by decide +kernel
theorem dX9_makeAnew_31 : decode cX9_makeAnew 31 = .ok (.invokevirtual 87, 3) := by decide +kernel
theorem dX9_makeAnew_34 : decode cX9_makeAnew 34 = .ok (.invokevirtual 79, 3) := by decide +kernel
theorem dX9_makeAnew_37 : decode cX9_makeAnew 37 = .ok (.iinc 3 1, 3) := by decide +kernel
theorem dX9_makeAnew_40 : decode cX9_makeAnew 40 = .ok (.goto (-29), 3) := by decide +kernel
theorem dX9_makeAnew_43 : decode cX9_makeAnew 43 = .ok (.return_, 1) := by decide +kernel
theorem dX9_isStale_0 : decode cX9_isStale 0 = .ok (.bipush 12, 2) := by decide +kernel
theorem dX9_isStale_2 : decode cX9_isStale 2 = .ok (.iconst 4, 1) := by decide +kernel
theorem dX9_isStale_3 : decode cX9_isStale 3 = .ok (.iload_n 1, 1) := by decide +kernel
theorem dX9_isStale_4 : decode cX9_isStale 4 = .ok (.imul, 1) := by decide +kernel
theorem dX9_isStale_5 : decode cX9_isStale 5 = .ok (.iload_n 2, 1) := by decide +kernel
theorem dX9_isStale_6 : decode cX9_isStale 6 = .ok (.iadd, 1) := by decide +kernel
theorem dX9_isStale_7 : decode cX9_isStale 7 = .ok (.imul, 1) := by decide +kernel
theorem dX9_isStale_8 : decode cX9_isStale 8 = .ok (.istore_n 3, 1) := by decide +kernel
theorem dX9_isStale_9 : decode cX9_isStale 9 = .ok (.iconst 0, 1) := by decide +kernel
theorem dX9_isStale_10 : decode cX9_isStale 10 = .ok (.istore 4, 2) := by decide +kernel
theorem dX9_isStale_12 : decode cX9_isStale 12 = .ok (.iload 4, 2) := by decide +kernel
theorem dX9_isStale_14 : decode cX9_isStale 14 = .ok (.bipush 12, 2) := by decide +kernel
theorem dX9_isStale_16 : decode cX9_isStale 16 = .ok (.if_icmp .ge 25, 3) := by decide +kernel
theorem dX9_isStale_19 : decode cX9_isStale 19 = .ok (.aload_n 0, 1) := by decide +kernel
theorem dX9_isStale_20 : decode cX9_isStale 20 = .ok (.getfield 19, 3) := by decide +kernel
theorem dX9_isStale_23 : decode cX9_isStale 23 = .ok (.iload 4, 2) := by decide +kernel
theorem dX9_isStale_25 : decode cX9_isStale 25 = .ok (.aload_n 0, 1) := by decide +kernel
theorem dX9_isStale_26 : decode cX9_isStale 26 = .ok (.getfield 16, 3) := by decide +kernel
theorem dX9_isStale_29 : decode cX9_isStale 29 = .ok (.iload_n 3, 1) := by decide +kernel
theorem dX9_isStale_30 : decode cX9_isStale 30 = .ok (.iload 4, 2) := by decide +kernel
theorem dX9_isStale_32 : decode cX9_isStale 32 = .ok (.iadd, 1) := by decide +kernel
theorem dX9_isStale_33 : decode cX9_isStale 33 = .ok (.iaload, 1) := by decide +kernel
theorem dX9_isStale_34 : decode cX9_isStale 34 = .ok (.iastore, 1) := by decide +kernel
theorem dX9_isStale_35 : decode cX9_isStale 35 = .ok (.iinc 4 1, 3) := by decide +kernel
theorem dX9_isStale_38 : decode cX9_isStale 38 = .ok (.goto (-26), 3) := by decide +kernel
theorem dX9_isStale_41 : decode cX9_isStale 41 = .ok (.aload_n 0, 1) := by decide +kernel
theorem dX9_isStale_42 : decode cX9_isStale 42 = .ok (.iload_n 1, 1) := by decide +kernel
theorem dX9_isStale_43 : decode cX9_isStale 43 = .ok (.iload_n 2, 1) := by decide +kernel
theorem dX9_isStale_44 : decode cX9_isStale 44 = .ok (.invokevirtual 91, 3) := by decide +kernel
theorem dX9_isStale_47 : decode cX9_isStale 47 = .ok (.aload_n 0, 1) := by decide +kernel
theorem dX9_isStale_48 : decode cX9_isStale 48 = .ok (.getfield 19, 3) := by decide +kernel
theorem dX9_isStale_51 : decode cX9_isStale 51 = .ok (.iconst 0, 1) := by decide +kernel
theorem dX9_isStale_52 : decode cX9_isStale 52 = .ok (.iaload, 1) := by decide +kernel
theorem dX9_isStale_53 : decode cX9_isStale 53 = .ok (.aload_n 0, 1) := by decide +kernel
theorem dX9_isStale_54 : decode cX9_isStale 54 = .ok (.getfield 16, 3) := by decide +kernel
theorem dX9_isStale_57 : decode cX9_isStale 57 = .ok (.iload_n 3, 1) := by decide +kernel
theorem dX9_isStale_58 : decode cX9_isStale 58 = .ok (.iaload, 1) := by decide +kernel
theorem dX9_isStale_59 : decode cX9_isStale 59 = .ok (.if_icmp .ne 37, 3) := by decide +kernel
theorem dX9_isStale_62 : decode cX9_isStale 62 = .ok (.aload_n 0, 1) := by decide +kernel
theorem dX9_isStale_63 : decode cX9_isStale 63 = .ok (.getfield 19, 3) := by decide +kernel
theorem dX9_isStale_66 : decode cX9_isStale 66 = .ok (.iconst 1, 1) := by decide +kernel
theorem dX9_isStale_67 : decode cX9_isStale 67 = .ok (.iaload, 1) := by decide +kernel
theorem dX9_isStale_68 : decode cX9_isStale 68 = .ok (.aload_n 0, 1) := by decide +kernel
theorem dX9_isStale_69 : decode cX9_isStale 69 = .ok (.getfield 16, 3) := by decide +kernel
theorem dX9_isStale_72 : decode cX9_isStale 72 = .ok (.iload_n 3, 1) := by decide +kernel
theorem dX9_isStale_73 : decode cX9_isStale 73 = .ok (.iconst 1, 1) := by decide +kernel
theorem dX9_isStale_74 : decode cX9_isStale 74 = .ok (.iadd, 1) := by decide +kernel
theorem dX9_isStale_75 : decode cX9_isStale 75 = .ok (.iaload, 1) := by decide +kernel
theorem dX9_isStale_76 : decode cX9_isStale 76 = .ok (.if_icmp .ne 20, 3) := by decide +kernel
theorem dX9_isStale_79 : decode cX9_isStale 79 = .ok (.aload_n 0, 1) := by decide +kernel
theorem dX9_isStale_80 : decode cX9_isStale 80 = .ok (.getfield 19, 3) := by decide +kernel
theorem dX9_isStale_83 : decode cX9_isStale 83 = .ok (.iconst 3, 1) := by decide +kernel
theorem dX9_isStale_84 : decode cX9_isStale 84 = .ok (.iaload, 1) := by decide +kernel
theorem dX9_isStale_85 : decode cX9_isStale 85 = .ok (.aload_n 0, 1) := by decide +kernel
theorem dX9_isStale_86 : decode cX9_isStale 86 = .ok (.getfield 16, 3) := by decide +kernel
theorem dX9_isStale_89 : decode cX9_isStale 89 = .ok (.iload_n 3, 1) := by decide +kernel
theorem dX9_isStale_90 : decode cX9_isStale 90 = .ok (.iconst 3, 1) := by decide +kernel
theorem dX9_isStale_91 : decode cX9_isStale 91 = .ok (.iadd, 1) := by decide +kernel
theorem dX9_isStale_92 : decode cX9_isStale 92 = .ok (.iaload, 1) := by decide +kernel
theorem dX9_isStale_93 : decode cX9_isStale 93 = .ok (.if_icmp .eq 7, 3) := by decide +kernel
theorem dX9_isStale_96 : decode cX9_isStale 96 = .ok (.iconst 1, 1) := by decide +kernel
theorem dX9_isStale_97 : decode cX9_isStale 97 = .ok (.goto 4, 3) := by decide +kernel
theorem dX9_isStale_100 : decode cX9_isStale 100 = .ok (.iconst 0, 1) := by decide +kernel
theorem dX9_isStale_101 : decode cX9_isStale 101 = .ok (.istore 4, 2) := by decide +kernel
theorem dX9_isStale_103 : decode cX9_isStale 103 = .ok (.iconst 0, 1) := by decide +kernel
theorem dX9_isStale_104 : decode cX9_isStale 104 = .ok (.istore 5, 2) := by decide +kernel
theorem dX9_isStale_106 : decode cX9_isStale 106 = .ok (.iload 5, 2) := by decide +kernel
theorem dX9_isStale_108 : decode cX9_isStale 108 = .ok (.aload_n 0, 1) := by decide +kernel
theorem dX9_isStale_109 : decode cX9_isStale 109 = .ok (.getfield 19, 3) := by decide +kernel
theorem dX9_isStale_112 : decode cX9_isStale 112 = .ok (.iconst 3, 1) := by decide +kernel
theorem dX9_isStale_113 : decode cX9_isStale 113 = .ok (.iaload, 1) := by decide +kernel
theorem dX9_isStale_114 : decode cX9_isStale 114 = .ok (.if_icmp .ge 42, 3) := by decide +kernel
theorem dX9_isStale_117 : decode cX9_isStale 117 = .ok (.iload 4, 2) := by decide +kernel
theorem dX9_isStale_119 : decode cX9_isStale 119 = .ok (.ifCond .ne 37, 3) := by decide +kernel
theorem dX9_isStale_122 : decode cX9_isStale 122 = .ok (.aload_n 0, 1) := by decide +kernel
theorem dX9_isStale_123 : decode cX9_isStale 123 = .ok (.iconst 4, 1) := by decide +kernel
theorem dX9_isStale_124 : decode cX9_isStale 124 = .ok (.iload_n 1, 1) := by decide +kernel
theorem dX9_isStale_125 : decode cX9_isStale 125 = .ok (.imul, 1) := by decide +kernel
theorem dX9_isStale_126 : decode cX9_isStale 126 = .ok (.iload_n 2, 1) := by decide +kernel
theorem dX9_isStale_127 : decode cX9_isStale 127 = .ok (.iadd, 1) := by decide +kernel
theorem dX9_isStale_128 : decode cX9_isStale 128 = .ok (.aload_n 0, 1) := by decide +kernel
theorem dX9_isStale_129 : decode cX9_isStale 129 = .ok (.getfield 19, 3) := by decide +kernel
theorem dX9_isStale_132 : decode cX9_isStale 132 = .ok (.iconst 4, 1) := by decide +kernel
theorem dX9_isStale_133 : decode cX9_isStale 133 = .ok (.iload 5, 2) := by decide +kernel
theorem dX9_isStale_135 : decode cX9_isStale 135 = .ok (.iadd, 1) := by decide +kernel
theorem dX9_isStale_136 : decode cX9_isStale 136 = .ok (.iaload, 1) := by decide +kernel
theorem dX9_isStale_137 : decode cX9_isStale 137 = .ok (.invokevirtual 75, 3) := by decide +kernel
theorem dX9_isStale_140 : decode cX9_isStale 140 = .ok (.ifCond .ge 7, 3) := by decide +kernel
theorem dX9_isStale_143 : decode cX9_isStale 143 = .ok (.iconst 1, 1) := by decide +kernel
theorem dX9_isStale_144 : decode cX9_isStale 144 = .ok (.goto 4, 3) := by decide +kernel
theorem dX9_isStale_147 : decode cX9_isStale 147 = .ok (.iconst 0, 1) := by decide +kernel
theorem dX9_isStale_148 : decode cX9_isStale 148 = .ok (.istore 4, 2) := by decide +kernel
theorem dX9_isStale_150 : decode cX9_isStale 150 = .ok (.iinc 5 1, 3) := by decide +kernel
theorem dX9_isStale_153 : decode cX9_isStale 153 = .ok (.goto (-47), 3) := by decide +kernel
theorem dX9_isStale_156 : decode cX9_isStale 156 = .ok (.iconst 0, 1) := by decide +kernel
theorem dX9_isStale_157 : decode cX9_isStale 157 = .ok (.istore 5, 2) := by decide +kernel
theorem dX9_isStale_159 : decode cX9_isStale 159 = .ok (.iload 5, 2) := by decide +kernel
theorem dX9_isStale_161 : decode cX9_isStale 161 = .ok (.bipush 12, 2) := by decide +kernel
theorem dX9_isStale_163 : decode cX9_isStale 163 = .ok (.if_icmp .ge 25, 3) := by decide +kernel
theorem dX9_isStale_166 : decode cX9_isStale 166 = .ok (.aload_n 0, 1) := by decide +kernel
theorem dX9_isStale_167 : decode cX9_isStale 167 = .ok (.getfield 16, 3) := by decide +kernel
theorem dX9_isStale_170 : decode cX9_isStale 170 = .ok (.iload_n 3, 1) := by decide +kernel
theorem dX9_isStale_171 : decode cX9_isStale 171 = .ok (.iload 5, 2) := by decide +kernel
theorem dX9_isStale_173 : decode cX9_isStale 173 = .ok (.iadd, 1) := by decide +kernel
theorem dX9_isStale_174 : decode cX9_isStale 174 = .ok (.aload_n 0, 1) := by decide +kernel
theorem dX9_isStale_175 : decode cX9_isStale 175 = .ok (.getfield 19, 3) := by decide +kernel
theorem dX9_isStale_178 : decode cX9_isStale 178 = .ok (.iload 5, 2) := by decide +kernel
theorem dX9_isStale_180 : decode cX9_isStale 180 = .ok (.iaload, 1) := by decide +kernel
theorem dX9_isStale_181 : decode cX9_isStale 181 = .ok (.iastore, 1) := by decide +kernel
theorem dX9_isStale_182 : decode cX9_isStale 182 = .ok (.iinc 5 1, 3) := by decide +kernel
theorem dX9_isStale_185 : decode cX9_isStale 185 = .ok (.goto (-26), 3) := by decide +kernel
theorem dX9_isStale_188 : decode cX9_isStale 188 = .ok (.iload 4, 2) := by decide +kernel
theorem dX9_isStale_190 : decode cX9_isStale 190 = .ok (.ireturn, 1) := by decide +kernel
theorem dX9_anew_0 : decode cX9_anew 0 = .ok (.iload_n 1, 1) := by decide +kernel
theorem dX9_anew_1 : decode cX9_anew 1 = .ok (.invokestatic 70, 3) := by decide +kernel
theorem dX9_anew_4 : decode cX9_anew 4 = .ok (.ifCond .ne 5, 3) := by decide +kernel
theorem dX9_anew_7 : decode cX9_anew 7 = .ok (.iconst (-1), 1) := by decide +kernel
theorem dX9_anew_8 : decode cX9_anew 8 = .ok (.ireturn, 1) := by decide +kernel
theorem dX9_anew_9 : decode cX9_anew 9 = .ok (.iconst 0, 1) := by decide +kernel
theorem dX9_anew_10 : decode cX9_anew 10 = .ok (.istore_n 2, 1) := by decide +kernel
theorem dX9_anew_11 : decode cX9_anew 11 = .ok (.iconst 0, 1) := by decide +kernel
theorem dX9_anew_12 : decode cX9_anew 12 = .ok (.istore_n 3, 1) := by decide +kernel
theorem dX9_anew_13 : decode cX9_anew 13 = .ok (.iload_n 3, 1) := by decide +kernel
theorem dX9_anew_14 : decode cX9_anew 14 = .ok (.iconst 4, 1) := by decide +kernel
theorem dX9_anew_15 : decode cX9_anew 15 = .ok (.if_icmp .ge 32, 3) := by decide +kernel
theorem dX9_anew_18 : decode cX9_anew 18 = .ok (.iload_n 2, 1) := by decide +kernel
theorem dX9_anew_19 : decode cX9_anew 19 = .ok (.aload_n 0, 1) := by decide +kernel
theorem dX9_anew_20 : decode cX9_anew 20 = .ok (.iload_n 1, 1) := by decide +kernel
theorem dX9_anew_21 : decode cX9_anew 21 = .ok (.iload_n 3, 1) := by decide +kernel
theorem dX9_anew_22 : decode cX9_anew 22 = .ok (.invokevirtual 94, 3) := by decide +kernel
theorem dX9_anew_25 : decode cX9_anew 25 = .ok (.ifCond .eq 7, 3) := by decide +kernel
theorem dX9_anew_28 : decode cX9_anew 28 = .ok (.iconst 1, 1) := by decide +kernel
theorem dX9_anew_29 : decode cX9_anew 29 = .ok (.goto 4, 3) := by decide +kernel
theorem dX9_anew_32 : decode cX9_anew 32 = .ok (.iconst 0, 1) := by decide +kernel
theorem dX9_anew_33 : decode cX9_anew 33 = .ok (.iadd, 1) := by decide +kernel
theorem dX9_anew_34 : decode cX9_anew 34 = .ok (.istore_n 2, 1) := by decide +kernel
theorem dX9_anew_35 : decode cX9_anew 35 = .ok (.aload_n 0, 1) := by decide +kernel
theorem dX9_anew_36 : decode cX9_anew 36 = .ok (.iload_n 1, 1) := by decide +kernel
theorem dX9_anew_37 : decode cX9_anew 37 = .ok (.iload_n 3, 1) := by decide +kernel
theorem dX9_anew_38 : decode cX9_anew 38 = .ok (.invokevirtual 91, 3) := by decide +kernel
theorem dX9_anew_41 : decode cX9_anew 41 = .ok (.iinc 3 1, 3) := by decide +kernel
theorem dX9_anew_44 : decode cX9_anew 44 = .ok (.goto (-31), 3) := by decide +kernel
theorem dX9_anew_47 : decode cX9_anew 47 = .ok (.iload_n 2, 1) := by decide +kernel
theorem dX9_anew_48 : decode cX9_anew 48 = .ok (.ireturn, 1) := by decide +kernel
theorem dX9_cell_0 : decode cX9_cell 0 = .ok (.aload_n 0, 1) := by decide +kernel
theorem dX9_cell_1 : decode cX9_cell 1 = .ok (.iload_n 1, 1) := by decide +kernel
theorem dX9_cell_2 : decode cX9_cell 2 = .ok (.iload_n 2, 1) := by decide +kernel
theorem dX9_cell_3 : decode cX9_cell 3 = .ok (.invokevirtual 83, 3) := by decide +kernel
theorem dX9_cell_6 : decode cX9_cell 6 = .ok (.ifCond .eq 20, 3) := by decide +kernel
theorem dX9_cell_9 : decode cX9_cell 9 = .ok (.iload_n 3, 1) := by decide +kernel
theorem dX9_cell_10 : decode cX9_cell 10 = .ok (.invokestatic 97, 3) := by decide +kernel
theorem dX9_cell_13 : decode cX9_cell 13 = .ok (.ifCond .eq 13, 3) := by decide +kernel
theorem dX9_cell_16 : decode cX9_cell 16 = .ok (.aload_n 0, 1) := by decide +kernel
theorem dX9_cell_17 : decode cX9_cell 17 = .ok (.iload_n 1, 1) := by decide +kernel
theorem dX9_cell_18 : decode cX9_cell 18 = .ok (.iload_n 2, 1) := by decide +kernel
theorem dX9_cell_19 : decode cX9_cell 19 = .ok (.iload_n 3, 1) := by decide +kernel
theorem dX9_cell_20 : decode cX9_cell 20 = .ok (.invokevirtual 87, 3) := by decide +kernel
theorem dX9_cell_23 : decode cX9_cell 23 = .ok (.goto 5, 3) := by decide +kernel
theorem dX9_cell_26 : decode cX9_cell 26 = .ok (.ldc 100, 2) := by decide +kernel
theorem dX9_cell_28 : decode cX9_cell 28 = .ok (.ireturn, 1) := by decide +kernel
theorem dX9_summary_0 : decode cX9_summary 0 = .ok (.iload_n 1, 1) := by decide +kernel
theorem dX9_summary_1 : decode cX9_summary 1 = .ok (.invokestatic 70, 3) := by decide +kernel
theorem dX9_summary_4 : decode cX9_summary 4 = .ok (.ifCond .eq 10, 3) := by decide +kernel
theorem dX9_summary_7 : decode cX9_summary 7 = .ok (.iload_n 2, 1) := by decide +kernel
theorem dX9_summary_8 : decode cX9_summary 8 = .ok (.invokestatic 97, 3) := by decide +kernel
theorem dX9_summary_11 : decode cX9_summary 11 = .ok (.ifCond .ne 6, 3) := by decide +kernel
theorem dX9_summary_14 : decode cX9_summary 14 = .ok (.ldc 100, 2) := by decide +kernel
theorem dX9_summary_16 : decode cX9_summary 16 = .ok (.ireturn, 1) := by decide +kernel
theorem dX9_summary_17 : decode cX9_summary 17 = .ok (.iload_n 3, 1) := by decide +kernel
theorem dX9_summary_18 : decode cX9_summary 18 = .ok (.iconst 0, 1) := by decide +kernel
theorem dX9_summary_19 : decode cX9_summary 19 = .ok (.iconst 4, 1) := by decide +kernel
theorem dX9_summary_20 : decode cX9_summary 20 = .ok (.invokestatic 66, 3) := by decide +kernel
theorem dX9_summary_23 : decode cX9_summary 23 = .ok (.ifCond .ne 6, 3) := by decide +kernel
theorem dX9_summary_26 : decode cX9_summary 26 = .ok (.ldc 101, 2) := by decide +kernel
theorem dX9_summary_28 : decode cX9_summary 28 = .ok (.ireturn, 1) := by decide +kernel
theorem dX9_summary_29 : decode cX9_summary 29 = .ok (.iload_n 3, 1) := by decide +kernel
theorem dX9_summary_30 : decode cX9_summary 30 = .ok (.iconst 4, 1) := by decide +kernel
theorem dX9_summary_31 : decode cX9_summary 31 = .ok (.if_icmp .ne 18, 3) := by decide +kernel
theorem dX9_summary_34 : decode cX9_summary 34 = .ok (.aload_n 0, 1) := by decide +kernel
theorem dX9_summary_35 : decode cX9_summary 35 = .ok (.iload_n 1, 1) := by decide +kernel
theorem dX9_summary_36 : decode cX9_summary 36 = .ok (.iload_n 2, 1) := by decide +kernel
theorem dX9_summary_37 : decode cX9_summary 37 = .ok (.invokevirtual 94, 3) := by decide +kernel
theorem dX9_summary_40 : decode cX9_summary 40 = .ok (.ifCond .eq 7, 3) := by decide +kernel
theorem dX9_summary_43 : decode cX9_summary 43 = .ok (.iconst 1, 1) := by decide +kernel
theorem dX9_summary_44 : decode cX9_summary 44 = .ok (.goto 4, 3) := by decide +kernel
theorem dX9_summary_47 : decode cX9_summary 47 = .ok (.iconst 0, 1) := by decide +kernel
theorem dX9_summary_48 : decode cX9_summary 48 = .ok (.ireturn, 1) := by decide +kernel
theorem dX9_summary_49 : decode cX9_summary 49 = .ok (.aload_n 0, 1) := by decide +kernel
theorem dX9_summary_50 : decode cX9_summary 50 = .ok (.getfield 16, 3) := by decide +kernel
theorem dX9_summary_53 : decode cX9_summary 53 = .ok (.bipush 12, 2) := by decide +kernel
theorem dX9_summary_55 : decode cX9_summary 55 = .ok (.iconst 4, 1) := by decide +kernel
theorem dX9_summary_56 : decode cX9_summary 56 = .ok (.iload_n 1, 1) := by decide +kernel
theorem dX9_summary_57 : decode cX9_summary 57 = .ok (.imul, 1) := by decide +kernel
theorem dX9_summary_58 : decode cX9_summary 58 = .ok (.iload_n 2, 1) := by decide +kernel
theorem dX9_summary_59 : decode cX9_summary 59 = .ok (.iadd, 1) := by decide +kernel
theorem dX9_summary_60 : decode cX9_summary 60 = .ok (.imul, 1) := by decide +kernel
theorem dX9_summary_61 : decode cX9_summary 61 = .ok (.iload_n 3, 1) := by decide +kernel
theorem dX9_summary_62 : decode cX9_summary 62 = .ok (.iadd, 1) := by decide +kernel
theorem dX9_summary_63 : decode cX9_summary 63 = .ok (.iaload, 1) := by decide +kernel
theorem dX9_summary_64 : decode cX9_summary 64 = .ok (.istore 4, 2) := by decide +kernel
theorem dX9_summary_66 : decode cX9_summary 66 = .ok (.iload_n 3, 1) := by decide +kernel
theorem dX9_summary_67 : decode cX9_summary 67 = .ok (.iconst 3, 1) := by decide +kernel
theorem dX9_summary_68 : decode cX9_summary 68 = .ok (.if_icmp .ne 13, 3) := by decide +kernel
theorem dX9_summary_71 : decode cX9_summary 71 = .ok (.iload 4, 2) := by decide +kernel
theorem dX9_summary_73 : decode cX9_summary 73 = .ok (.ifCond .ge 8, 3) := by decide +kernel
theorem dX9_summary_76 : decode cX9_summary 76 = .ok (.ldc 74, 2) := by decide +kernel
theorem dX9_summary_78 : decode cX9_summary 78 = .ok (.goto 5, 3) := by decide +kernel
theorem dX9_summary_81 : decode cX9_summary 81 = .ok (.iload 4, 2) := by decide +kernel
theorem dX9_summary_83 : decode cX9_summary 83 = .ok (.ireturn, 1) := by decide +kernel
theorem dX9_listed_0 : decode cX9_listed 0 = .ok (.iload_n 1, 1) := by decide +kernel
theorem dX9_listed_1 : decode cX9_listed 1 = .ok (.invokestatic 70, 3) := by decide +kernel
theorem dX9_listed_4 : decode cX9_listed 4 = .ok (.ifCond .eq 10, 3) := by decide +kernel
theorem dX9_listed_7 : decode cX9_listed 7 = .ok (.iload_n 2, 1) := by decide +kernel
theorem dX9_listed_8 : decode cX9_listed 8 = .ok (.invokestatic 97, 3) := by decide +kernel
theorem dX9_listed_11 : decode cX9_listed 11 = .ok (.ifCond .ne 6, 3) := by decide +kernel
theorem dX9_listed_14 : decode cX9_listed 14 = .ok (.ldc 100, 2) := by decide +kernel
theorem dX9_listed_16 : decode cX9_listed 16 = .ok (.ireturn, 1) := by decide +kernel
theorem dX9_listed_17 : decode cX9_listed 17 = .ok (.iload 4, 2) := by decide +kernel
theorem dX9_listed_19 : decode cX9_listed 19 = .ok (.iconst 0, 1) := by decide +kernel
theorem dX9_listed_20 : decode cX9_listed 20 = .ok (.iconst 1, 1) := by decide +kernel
theorem dX9_listed_21 : decode cX9_listed 21 = .ok (.invokestatic 66, 3) := by decide +kernel
theorem dX9_listed_24 : decode cX9_listed 24 = .ok (.ifCond .ne 6, 3) := by decide +kernel
theorem dX9_listed_27 : decode cX9_listed 27 = .ok (.ldc 101, 2) := by decide +kernel
theorem dX9_listed_29 : decode cX9_listed 29 = .ok (.ireturn, 1) := by decide +kernel
theorem dX9_listed_30 : decode cX9_listed 30 = .ok (.bipush 12, 2) := by decide +kernel
theorem dX9_listed_32 : decode cX9_listed 32 = .ok (.iconst 4, 1) := by decide +kernel
theorem dX9_listed_33 : decode cX9_listed 33 = .ok (.iload_n 1, 1) := by decide +kernel
theorem dX9_listed_34 : decode cX9_listed 34 = .ok (.imul, 1) := by decide +kernel
theorem dX9_listed_35 : decode cX9_listed 35 = .ok (.iload_n 2, 1) := by decide +kernel
theorem dX9_listed_36 : decode cX9_listed 36 = .ok (.iadd, 1) := by decide +kernel
theorem dX9_listed_37 : decode cX9_listed 37 = .ok (.imul, 1) := by decide +kernel
theorem dX9_listed_38 : decode cX9_listed 38 = .ok (.istore 5, 2) := by decide +kernel
theorem dX9_listed_40 : decode cX9_listed 40 = .ok (.iload_n 3, 1) := by decide +kernel
theorem dX9_listed_41 : decode cX9_listed 41 = .ok (.iconst 0, 1) := by decide +kernel
theorem dX9_listed_42 : decode cX9_listed 42 = .ok (.aload_n 0, 1) := by decide +kernel
theorem dX9_listed_43 : decode cX9_listed 43 = .ok (.getfield 16, 3) := by decide +kernel
theorem dX9_listed_46 : decode cX9_listed 46 = .ok (.iload 5, 2) := by decide +kernel
theorem dX9_listed_48 : decode cX9_listed 48 = .ok (.iconst 3, 1) := by decide +kernel
theorem dX9_listed_49 : decode cX9_listed 49 = .ok (.iadd, 1) := by decide +kernel
theorem dX9_listed_50 : decode cX9_listed 50 = .ok (.iaload, 1) := by decide +kernel
theorem dX9_listed_51 : decode cX9_listed 51 = .ok (.iconst 1, 1) := by decide +kernel
theorem dX9_listed_52 : decode cX9_listed 52 = .ok (.isub, 1) := by decide +kernel
theorem dX9_listed_53 : decode cX9_listed 53 = .ok (.invokestatic 66, 3) := by decide +kernel
theorem dX9_listed_56 : decode cX9_listed 56 = .ok (.ifCond .eq 22, 3) := by decide +kernel
theorem dX9_listed_59 : decode cX9_listed 59 = .ok (.aload_n 0, 1) := by decide +kernel
theorem dX9_listed_60 : decode cX9_listed 60 = .ok (.getfield 16, 3) := by decide +kernel
theorem dX9_listed_63 : decode cX9_listed 63 = .ok (.iload 5, 2) := by decide +kernel
theorem dX9_listed_65 : decode cX9_listed 65 = .ok (.iconst 4, 1) := by decide +kernel
theorem dX9_listed_66 : decode cX9_listed 66 = .ok (.iadd, 1) := by decide +kernel
theorem dX9_listed_67 : decode cX9_listed 67 = .ok (.iconst 4, 1) := by decide +kernel
theorem dX9_listed_68 : decode cX9_listed 68 = .ok (.iload 4, 2) := by decide +kernel
theorem dX9_listed_70 : decode cX9_listed 70 = .ok (.imul, 1) := by decide +kernel
theorem dX9_listed_71 : decode cX9_listed 71 = .ok (.iadd, 1) := by decide +kernel
theorem dX9_listed_72 : decode cX9_listed 72 = .ok (.iload_n 3, 1) := by decide +kernel
theorem dX9_listed_73 : decode cX9_listed 73 = .ok (.iadd, 1) := by decide +kernel
theorem dX9_listed_74 : decode cX9_listed 74 = .ok (.iaload, 1) := by decide +kernel
theorem dX9_listed_75 : decode cX9_listed 75 = .ok (.goto 5, 3) := by decide +kernel
theorem dX9_listed_78 : decode cX9_listed 78 = .ok (.ldc 74, 2) := by decide +kernel
theorem dX9_listed_80 : decode cX9_listed 80 = .ok (.ireturn, 1) := by decide +kernel
theorem dX9_say_0 : decode cX9_say 0 = .ok (.iload_n 1, 1) := by decide +kernel
theorem dX9_say_1 : decode cX9_say 1 = .ok (.bipush 33, 2) := by decide +kernel
theorem dX9_say_3 : decode cX9_say 3 = .ok (.bipush 126, 2) := by decide +kernel
theorem dX9_say_5 : decode cX9_say 5 = .ok (.invokestatic 66, 3) := by decide +kernel
theorem dX9_say_8 : decode cX9_say 8 = .ok (.ifCond .ne 6, 3) := by decide +kernel
theorem dX9_say_11 : decode cX9_say 11 = .ok (.bipush (-2), 2) := by decide +kernel
theorem dX9_say_13 : decode cX9_say 13 = .ok (.ireturn, 1) := by decide +kernel
theorem dX9_say_14 : decode cX9_say 14 = .ok (.aload_n 0, 1) := by decide +kernel
theorem dX9_say_15 : decode cX9_say 15 = .ok (.getfield 102, 3) := by decide +kernel
theorem dX9_say_18 : decode cX9_say 18 = .ok (.bipush 60, 2) := by decide +kernel
theorem dX9_say_20 : decode cX9_say 20 = .ok (.if_icmp .ne 6, 3) := by decide +kernel
theorem dX9_say_23 : decode cX9_say 23 = .ok (.bipush (-4), 2) := by decide +kernel
theorem dX9_say_25 : decode cX9_say 25 = .ok (.ireturn, 1) := by decide +kernel
theorem dX9_say_26 : decode cX9_say 26 = .ok (.aload_n 0, 1) := by decide +kernel
theorem dX9_say_27 : decode cX9_say 27 = .ok (.getfield 22, 3) := by decide +kernel
theorem dX9_say_30 : decode cX9_say 30 = .ok (.aload_n 0, 1) := by decide +kernel
theorem dX9_say_31 : decode cX9_say 31 = .ok (.getfield 102, 3) := by decide +kernel
theorem dX9_say_34 : decode cX9_say 34 = .ok (.iload_n 1, 1) := by decide +kernel
theorem dX9_say_35 : decode cX9_say 35 = .ok (.iastore, 1) := by decide +kernel
theorem dX9_say_36 : decode cX9_say 36 = .ok (.aload_n 0, 1) := by decide +kernel
theorem dX9_say_37 : decode cX9_say 37 = .ok (.dup, 1) := by decide +kernel
theorem dX9_say_38 : decode cX9_say 38 = .ok (.getfield 102, 3) := by decide +kernel
theorem dX9_say_41 : decode cX9_say 41 = .ok (.iconst 1, 1) := by decide +kernel
theorem dX9_say_42 : decode cX9_say 42 = .ok (.iadd, 1) := by decide +kernel
theorem dX9_say_43 : decode cX9_say 43 = .ok (.putfield 102, 3) := by decide +kernel
theorem dX9_say_46 : decode cX9_say 46 = .ok (.aload_n 0, 1) := by decide +kernel
theorem dX9_say_47 : decode cX9_say 47 = .ok (.getfield 102, 3) := by decide +kernel
theorem dX9_say_50 : decode cX9_say 50 = .ok (.ireturn, 1) := by decide +kernel
theorem dX9_wipe_0 : decode cX9_wipe 0 = .ok (.aload_n 0, 1) := by decide +kernel
theorem dX9_wipe_1 : decode cX9_wipe 1 = .ok (.getfield 102, 3) := by decide +kernel
theorem dX9_wipe_4 : decode cX9_wipe 4 = .ok (.istore_n 1, 1) := by decide +kernel
theorem dX9_wipe_5 : decode cX9_wipe 5 = .ok (.aload_n 0, 1) := by decide +kernel
theorem dX9_wipe_6 : decode cX9_wipe 6 = .ok (.iconst 0, 1) := by decide +kernel
theorem dX9_wipe_7 : decode cX9_wipe 7 = .ok (.putfield 102, 3) := by decide +kernel
theorem dX9_wipe_10 : decode cX9_wipe 10 = .ok (.iload_n 1, 1) := by decide +kernel
theorem dX9_wipe_11 : decode cX9_wipe 11 = .ok (.ireturn, 1) := by decide +kernel
theorem dX9_termOf_0 : decode cX9_termOf 0 = .ok (.iload_n 0, 1) := by decide +kernel
theorem dX9_termOf_1 : decode cX9_termOf 1 = .ok (.bipush 97, 2) := by decide +kernel
theorem dX9_termOf_3 : decode cX9_termOf 3 = .ok (.bipush 100, 2) := by decide +kernel
theorem dX9_termOf_5 : decode cX9_termOf 5 = .ok (.invokestatic 66, 3) := by decide +kernel
theorem dX9_termOf_8 : decode cX9_termOf 8 = .ok (.ifCond .eq 5, 3) := by decide +kernel
theorem dX9_termOf_11 : decode cX9_termOf 11 = .ok (.iconst 1, 1) := by decide +kernel
theorem dX9_termOf_12 : decode cX9_termOf 12 = .ok (.ireturn, 1) := by decide +kernel
theorem dX9_termOf_13 : decode cX9_termOf 13 = .ok (.iload_n 0, 1) := by decide +kernel
theorem dX9_termOf_14 : decode cX9_termOf 14 = .ok (.bipush 48, 2) := by decide +kernel
theorem dX9_termOf_16 : decode cX9_termOf 16 = .ok (.bipush 57, 2) := by decide +kernel
theorem dX9_termOf_18 : decode cX9_termOf 18 = .ok (.invokestatic 66, 3) := by decide +kernel
theorem dX9_termOf_21 : decode cX9_termOf 21 = .ok (.ifCond .eq 5, 3) := by decide +kernel
theorem dX9_termOf_24 : decode cX9_termOf 24 = .ok (.iconst 2, 1) := by decide +kernel
theorem dX9_termOf_25 : decode cX9_termOf 25 = .ok (.ireturn, 1) := by decide +kernel
theorem dX9_termOf_26 : decode cX9_termOf 26 = .ok (.iload_n 0, 1) := by decide +kernel
theorem dX9_termOf_27 : decode cX9_termOf 27 = .ok (.lookupswitch 83 #[(35, 65), (37, 77), (42, 74), (43, 69), (45, 71), (121, 80), (126, 67)], 65) := by decide +kernel
theorem dX9_termOf_92 : decode cX9_termOf 92 = .ok (.iconst 3, 1) := by decide +kernel
theorem dX9_termOf_93 : decode cX9_termOf 93 = .ok (.ireturn, 1) := by decide +kernel
theorem dX9_termOf_94 : decode cX9_termOf 94 = .ok (.iconst 4, 1) := by decide +kernel
theorem dX9_termOf_95 : decode cX9_termOf 95 = .ok (.ireturn, 1) := by decide +kernel
theorem dX9_termOf_96 : decode cX9_termOf 96 = .ok (.iconst 5, 1) := by decide +kernel
theorem dX9_termOf_97 : decode cX9_termOf 97 = .ok (.ireturn, 1) := by decide +kernel
theorem dX9_termOf_98 : decode cX9_termOf 98 = .ok (.bipush 6, 2) := by decide +kernel
theorem dX9_termOf_100 : decode cX9_termOf 100 = .ok (.ireturn, 1) := by decide +kernel
theorem dX9_termOf_101 : decode cX9_termOf 101 = .ok (.bipush 7, 2) := by decide +kernel
theorem dX9_termOf_103 : decode cX9_termOf 103 = .ok (.ireturn, 1) := by decide +kernel
theorem dX9_termOf_104 : decode cX9_termOf 104 = .ok (.bipush 8, 2) := by decide +kernel
theorem dX9_termOf_106 : decode cX9_termOf 106 = .ok (.ireturn, 1) := by decide +kernel
theorem dX9_termOf_107 : decode cX9_termOf 107 = .ok (.bipush 9, 2) := by decide +kernel
theorem dX9_termOf_109 : decode cX9_termOf 109 = .ok (.ireturn, 1) := by decide +kernel
theorem dX9_termOf_110 : decode cX9_termOf 110 = .ok (.ldc 74, 2) := by decide +kernel
theorem dX9_termOf_112 : decode cX9_termOf 112 = .ok (.ireturn, 1) := by decide +kernel
theorem dX9_truthOf_0 : decode cX9_truthOf 0 = .ok (.iload_n 0, 1) := by decide +kernel
theorem dX9_truthOf_1 : decode cX9_truthOf 1 = .ok (.lookupswitch 77 #[(33, 71), (38, 65), (60, 59), (61, 62), (109, 74), (124, 68)], 59) := by decide +kernel
theorem dX9_truthOf_60 : decode cX9_truthOf 60 = .ok (.bipush 10, 2) := by decide +kernel
theorem dX9_truthOf_62 : decode cX9_truthOf 62 = .ok (.ireturn, 1) := by decide +kernel
theorem dX9_truthOf_63 : decode cX9_truthOf 63 = .ok (.bipush 11, 2) := by decide +kernel
theorem dX9_truthOf_65 : decode cX9_truthOf 65 = .ok (.ireturn, 1) := by decide +kernel
theorem dX9_truthOf_66 : decode cX9_truthOf 66 = .ok (.bipush 12, 2) := by decide +kernel
theorem dX9_truthOf_68 : decode cX9_truthOf 68 = .ok (.ireturn, 1) := by decide +kernel
theorem dX9_truthOf_69 : decode cX9_truthOf 69 = .ok (.bipush 13, 2) := by decide +kernel
theorem dX9_truthOf_71 : decode cX9_truthOf 71 = .ok (.ireturn, 1) := by decide +kernel
theorem dX9_truthOf_72 : decode cX9_truthOf 72 = .ok (.bipush 14, 2) := by decide +kernel
theorem dX9_truthOf_74 : decode cX9_truthOf 74 = .ok (.ireturn, 1) := by decide +kernel
theorem dX9_truthOf_75 : decode cX9_truthOf 75 = .ok (.bipush 15, 2) := by decide +kernel
theorem dX9_truthOf_77 : decode cX9_truthOf 77 = .ok (.ireturn, 1) := by decide +kernel
theorem dX9_truthOf_78 : decode cX9_truthOf 78 = .ok (.ldc 74, 2) := by decide +kernel
theorem dX9_truthOf_80 : decode cX9_truthOf 80 = .ok (.ireturn, 1) := by decide +kernel
theorem dX9_inner_0 : decode cX9_inner 0 = .ok (.iload_n 0, 1) := by decide +kernel
theorem dX9_inner_1 : decode cX9_inner 1 = .ok (.iconst 4, 1) := by decide +kernel
theorem dX9_inner_2 : decode cX9_inner 2 = .ok (.if_icmp .eq 21, 3) := by decide +kernel
theorem dX9_inner_5 : decode cX9_inner 5 = .ok (.iload_n 0, 1) := by decide +kernel
theorem dX9_inner_6 : decode cX9_inner 6 = .ok (.bipush 8, 2) := by decide +kernel
theorem dX9_inner_8 : decode cX9_inner 8 = .ok (.if_icmp .eq 15, 3) := by decide +kernel
theorem dX9_inner_11 : decode cX9_inner 11 = .ok (.iload_n 0, 1) := by decide +kernel
theorem dX9_inner_12 : decode cX9_inner 12 = .ok (.bipush 9, 2) := by decide +kernel
theorem dX9_inner_14 : decode cX9_inner 14 = .ok (.if_icmp .eq 9, 3) := by decide +kernel
theorem dX9_inner_17 : decode cX9_inner 17 = .ok (.iload_n 0, 1) := by decide +kernel
theorem dX9_inner_18 : decode cX9_inner 18 = .ok (.bipush 14, 2) := by decide +kernel
theorem dX9_inner_20 : decode cX9_inner 20 = .ok (.if_icmp .ne 7, 3) := by decide +kernel
theorem dX9_inner_23 : decode cX9_inner 23 = .ok (.iconst 1, 1) := by decide +kernel
theorem dX9_inner_24 : decode cX9_inner 24 = .ok (.goto 29, 3) := by decide +kernel
theorem dX9_inner_27 : decode cX9_inner 27 = .ok (.iload_n 0, 1) := by decide +kernel
theorem dX9_inner_28 : decode cX9_inner 28 = .ok (.iconst 1, 1) := by decide +kernel
theorem dX9_inner_29 : decode cX9_inner 29 = .ok (.if_icmp .eq 19, 3) := by decide +kernel
theorem dX9_inner_32 : decode cX9_inner 32 = .ok (.iload_n 0, 1) := by decide +kernel
theorem dX9_inner_33 : decode cX9_inner 33 = .ok (.iconst 2, 1) := by decide +kernel
theorem dX9_inner_34 : decode cX9_inner 34 = .ok (.if_icmp .eq 14, 3) := by decide +kernel
theorem dX9_inner_37 : decode cX9_inner 37 = .ok (.iload_n 0, 1) := by decide +kernel
theorem dX9_inner_38 : decode cX9_inner 38 = .ok (.iconst 3, 1) := by decide +kernel
theorem dX9_inner_39 : decode cX9_inner 39 = .ok (.if_icmp .eq 9, 3) := by decide +kernel
theorem dX9_inner_42 : decode cX9_inner 42 = .ok (.iload_n 0, 1) := by decide +kernel
theorem dX9_inner_43 : decode cX9_inner 43 = .ok (.bipush 15, 2) := by decide +kernel
theorem dX9_inner_45 : decode cX9_inner 45 = .ok (.if_icmp .ne 7, 3) := by decide +kernel
theorem dX9_inner_48 : decode cX9_inner 48 = .ok (.iconst 0, 1) := by decide +kernel
theorem dX9_inner_49 : decode cX9_inner 49 = .ok (.goto 4, 3) := by decide +kernel
theorem dX9_inner_52 : decode cX9_inner 52 = .ok (.iconst 2, 1) := by decide +kernel
theorem dX9_inner_53 : decode cX9_inner 53 = .ok (.ireturn, 1) := by decide +kernel
theorem dX9_read_0 : decode cX9_read 0 = .ok (.iconst 1, 1) := by decide +kernel
theorem dX9_read_1 : decode cX9_read 1 = .ok (.istore_n 1, 1) := by decide +kernel
theorem dX9_read_2 : decode cX9_read 2 = .ok (.aload_n 0, 1) := by decide +kernel
theorem dX9_read_3 : decode cX9_read 3 = .ok (.getfield 37, 3) := by decide +kernel
theorem dX9_read_6 : decode cX9_read 6 = .ok (.iconst 0, 1) := by decide +kernel
theorem dX9_read_7 : decode cX9_read 7 = .ok (.iconst 1, 1) := by decide +kernel
theorem dX9_read_8 : decode cX9_read 8 = .ok (.iastore, 1) := by decide +kernel
theorem dX9_read_9 : decode cX9_read 9 = .ok (.iconst 0, 1) := by decide +kernel
theorem dX9_read_10 : decode cX9_read 10 = .ok (.istore_n 2, 1) := by decide +kernel
theorem dX9_read_11 : decode cX9_read 11 = .ok (.iload_n 2, 1) := by decide +kernel
theorem dX9_read_12 : decode cX9_read 12 = .ok (.aload_n 0, 1) := by decide +kernel
theorem dX9_read_13 : decode cX9_read 13 = .ok (.getfield 102, 3) := by decide +kernel
theorem dX9_read_16 : decode cX9_read 16 = .ok (.if_icmp .ge 269, 3) := by decide +kernel
theorem dX9_read_19 : decode cX9_read 19 = .ok (.aload_n 0, 1) := by decide +kernel
theorem dX9_read_20 : decode cX9_read 20 = .ok (.getfield 22, 3) := by decide +kernel
theorem dX9_read_23 : decode cX9_read 23 = .ok (.iload_n 2, 1) := by decide +kernel
theorem dX9_read_24 : decode cX9_read 24 = .ok (.iaload, 1) := by decide +kernel
theorem dX9_read_25 : decode cX9_read 25 = .ok (.istore_n 3, 1) := by decide +kernel
theorem dX9_read_26 : decode cX9_read 26 = .ok (.aload_n 0, 1) := by decide +kernel
theorem dX9_read_27 : decode cX9_read 27 = .ok (.getfield 25, 3) := by decide +kernel
theorem dX9_read_30 : decode cX9_read 30 = .ok (.iload_n 2, 1) := by decide +kernel
theorem dX9_read_31 : decode cX9_read 31 = .ok (.ldc 74, 2) := by decide +kernel
theorem dX9_read_33 : decode cX9_read 33 = .ok (.iastore, 1) := by decide +kernel
theorem dX9_read_34 : decode cX9_read 34 = .ok (.iload_n 1, 1) := by decide +kernel
theorem dX9_read_35 : decode cX9_read 35 = .ok (.ifCond .ne 5, 3) := by decide +kernel
theorem dX9_read_38 : decode cX9_read 38 = .ok (.iload_n 2, 1) := by decide +kernel
theorem dX9_read_39 : decode cX9_read 39 = .ok (.ireturn, 1) := by decide +kernel
theorem dX9_read_40 : decode cX9_read 40 = .ok (.iinc 1 (-1), 3) := by decide +kernel
theorem dX9_read_43 : decode cX9_read 43 = .ok (.aload_n 0, 1) := by decide +kernel
theorem dX9_read_44 : decode cX9_read 44 = .ok (.getfield 37, 3) := by decide +kernel
theorem dX9_read_47 : decode cX9_read 47 = .ok (.iload_n 1, 1) := by decide +kernel
theorem dX9_read_48 : decode cX9_read 48 = .ok (.iaload, 1) := by decide +kernel
theorem dX9_read_49 : decode cX9_read 49 = .ok (.istore 4, 2) := by decide +kernel
theorem dX9_read_51 : decode cX9_read 51 = .ok (.iload 4, 2) := by decide +kernel
theorem dX9_read_53 : decode cX9_read 53 = .ok (.iconst 2, 1) := by decide +kernel
theorem dX9_read_54 : decode cX9_read 54 = .ok (.if_icmp .le 57, 3) := by decide +kernel
theorem dX9_read_57 : decode cX9_read 57 = .ok (.iload 4, 2) := by decide +kernel
theorem dX9_read_59 : decode cX9_read 59 = .ok (.iconst 3, 1) := by decide +kernel
theorem dX9_read_60 : decode cX9_read 60 = .ok (.if_icmp .ne 14, 3) := by decide +kernel
theorem dX9_read_63 : decode cX9_read 63 = .ok (.iload_n 3, 1) := by decide +kernel
theorem dX9_read_64 : decode cX9_read 64 = .ok (.bipush 97, 2) := by decide +kernel
theorem dX9_read_66 : decode cX9_read 66 = .ok (.bipush 100, 2) := by decide +kernel
theorem dX9_read_68 : decode cX9_read 68 = .ok (.invokestatic 66, 3) := by decide +kernel
theorem dX9_read_71 : decode cX9_read 71 = .ok (.goto 28, 3) := by decide +kernel
theorem dX9_read_74 : decode cX9_read 74 = .ok (.iload 4, 2) := by decide +kernel
theorem dX9_read_76 : decode cX9_read 76 = .ok (.iconst 4, 1) := by decide +kernel
theorem dX9_read_77 : decode cX9_read 77 = .ok (.if_icmp .ne 14, 3) := by decide +kernel
theorem dX9_read_80 : decode cX9_read 80 = .ok (.iload_n 3, 1) := by decide +kernel
theorem dX9_read_81 : decode cX9_read 81 = .ok (.bipush 48, 2) := by decide +kernel
theorem dX9_read_83 : decode cX9_read 83 = .ok (.bipush 57, 2) := by decide +kernel
theorem dX9_read_85 : decode cX9_read 85 = .ok (.invokestatic 66, 3) := by decide +kernel
theorem dX9_read_88 : decode cX9_read 88 = .ok (.goto 11, 3) := by decide +kernel
theorem dX9_read_91 : decode cX9_read 91 = .ok (.iload_n 3, 1) := by decide +kernel
theorem dX9_read_92 : decode cX9_read 92 = .ok (.bipush 49, 2) := by decide +kernel
theorem dX9_read_94 : decode cX9_read 94 = .ok (.bipush 57, 2) := by decide +kernel
theorem dX9_read_96 : decode cX9_read 96 = .ok (.invokestatic 66, 3) := by decide +kernel
theorem dX9_read_99 : decode cX9_read 99 = .ok (.istore 5, 2) := by decide +kernel
theorem dX9_read_101 : decode cX9_read 101 = .ok (.iload 5, 2) := by decide +kernel
theorem dX9_read_103 : decode cX9_read 103 = .ok (.ifCond .ne 5, 3) := by decide +kernel
theorem dX9_read_106 : decode cX9_read 106 = .ok (.iload_n 2, 1) := by decide +kernel
theorem dX9_read_107 : decode cX9_read 107 = .ok (.ireturn, 1) := by decide +kernel
theorem dX9_read_108 : decode cX9_read 108 = .ok (.goto 171, 3) := by decide +kernel
theorem dX9_read_111 : decode cX9_read 111 = .ok (.iload 4, 2) := by decide +kernel
theorem dX9_read_113 : decode cX9_read 113 = .ok (.iconst 1, 1) := by decide +kernel
theorem dX9_read_114 : decode cX9_read 114 = .ok (.if_icmp .ne 10, 3) := by decide +kernel
theorem dX9_read_117 : decode cX9_read 117 = .ok (.iload_n 3, 1) := by decide +kernel
theorem dX9_read_118 : decode cX9_read 118 = .ok (.invokestatic 106, 3) := by decide +kernel
theorem dX9_read_121 : decode cX9_read 121 = .ok (.goto 7, 3) := by decide +kernel
theorem dX9_read_124 : decode cX9_read 124 = .ok (.iload_n 3, 1) := by decide +kernel
theorem dX9_read_125 : decode cX9_read 125 = .ok (.invokestatic 110, 3) := by decide +kernel
theorem dX9_read_128 : decode cX9_read 128 = .ok (.istore 5, 2) := by decide +kernel
theorem dX9_read_130 : decode cX9_read 130 = .ok (.iload 5, 2) := by decide +kernel
theorem dX9_read_132 : decode cX9_read 132 = .ok (.ifCond .ge 5, 3) := by decide +kernel
theorem dX9_read_135 : decode cX9_read 135 = .ok (.iload_n 2, 1) := by decide +kernel
theorem dX9_read_136 : decode cX9_read 136 = .ok (.ireturn, 1) := by decide +kernel
theorem dX9_read_137 : decode cX9_read 137 = .ok (.aload_n 0, 1) := by decide +kernel
theorem dX9_read_138 : decode cX9_read 138 = .ok (.getfield 25, 3) := by decide +kernel
theorem dX9_read_141 : decode cX9_read 141 = .ok (.iload_n 2, 1) := by decide +kernel
theorem dX9_read_142 : decode cX9_read 142 = .ok (.iload 5, 2) := by decide +kernel
theorem dX9_read_144 : decode cX9_read 144 = .ok (.iastore, 1) := by decide +kernel
theorem dX9_read_145 : decode cX9_read 145 = .ok (.iload 5, 2) := by decide +kernel
theorem dX9_read_147 : decode cX9_read 147 = .ok (.iconst 3, 1) := by decide +kernel
theorem dX9_read_148 : decode cX9_read 148 = .ok (.if_icmp .eq 17, 3) := by decide +kernel
theorem dX9_read_151 : decode cX9_read 151 = .ok (.iload 5, 2) := by decide +kernel
theorem dX9_read_153 : decode cX9_read 153 = .ok (.bipush 8, 2) := by decide +kernel
theorem dX9_read_155 : decode cX9_read 155 = .ok (.if_icmp .eq 10, 3) := by decide +kernel
theorem dX9_read_158 : decode cX9_read 158 = .ok (.iload 5, 2) := by decide +kernel
theorem dX9_read_160 : decode cX9_read 160 = .ok (.bipush 15, 2) := by decide +kernel
theorem dX9_read_162 : decode cX9_read 162 = .ok (.if_icmp .ne 63, 3) := by decide +kernel
theorem dX9_read_165 : decode cX9_read 165 = .ok (.aload_n 0, 1) := by decide +kernel
theorem dX9_read_166 : decode cX9_read 166 = .ok (.getfield 37, 3) := by decide +kernel
theorem dX9_read_169 : decode cX9_read 169 = .ok (.iload_n 1, 1) := by decide +kernel
theorem dX9_read_170 : decode cX9_read 170 = .ok (.iload 5, 2) := by decide +kernel
theorem dX9_read_172 : decode cX9_read 172 = .ok (.iconst 3, 1) := by decide +kernel
theorem dX9_read_173 : decode cX9_read 173 = .ok (.if_icmp .ne 7, 3) := by decide +kernel
theorem dX9_read_176 : decode cX9_read 176 = .ok (.iconst 4, 1) := by decide +kernel
theorem dX9_read_177 : decode cX9_read 177 = .ok (.goto 15, 3) := by decide +kernel
theorem dX9_read_180 : decode cX9_read 180 = .ok (.iload 5, 2) := by decide +kernel
theorem dX9_read_182 : decode cX9_read 182 = .ok (.bipush 8, 2) := by decide +kernel
theorem dX9_read_184 : decode cX9_read 184 = .ok (.if_icmp .ne 7, 3) := by decide +kernel
theorem dX9_read_187 : decode cX9_read 187 = .ok (.iconst 5, 1) := by decide +kernel
theorem dX9_read_188 : decode cX9_read 188 = .ok (.goto 4, 3) := by decide +kernel
theorem dX9_read_191 : decode cX9_read 191 = .ok (.iconst 3, 1) := by decide +kernel
theorem dX9_read_192 : decode cX9_read 192 = .ok (.iastore, 1) := by decide +kernel
theorem dX9_read_193 : decode cX9_read 193 = .ok (.aload_n 0, 1) := by decide +kernel
theorem dX9_read_194 : decode cX9_read 194 = .ok (.getfield 37, 3) := by decide +kernel
theorem dX9_read_197 : decode cX9_read 197 = .ok (.iload_n 1, 1) := by decide +kernel
theorem dX9_read_198 : decode cX9_read 198 = .ok (.iconst 1, 1) := by decide +kernel
theorem dX9_read_199 : decode cX9_read 199 = .ok (.iadd, 1) := by decide +kernel
theorem dX9_read_200 : decode cX9_read 200 = .ok (.iconst 4, 1) := by decide +kernel
theorem dX9_read_201 : decode cX9_read 201 = .ok (.iastore, 1) := by decide +kernel
theorem dX9_read_202 : decode cX9_read 202 = .ok (.aload_n 0, 1) := by decide +kernel
theorem dX9_read_203 : decode cX9_read 203 = .ok (.getfield 37, 3) := by decide +kernel
theorem dX9_read_206 : decode cX9_read 206 = .ok (.iload_n 1, 1) := by decide +kernel
theorem dX9_read_207 : decode cX9_read 207 = .ok (.iconst 2, 1) := by decide +kernel
theorem dX9_read_208 : decode cX9_read 208 = .ok (.iadd, 1) := by decide +kernel
theorem dX9_read_209 : decode cX9_read 209 = .ok (.iconst 4, 1) := by decide +kernel
theorem dX9_read_210 : decode cX9_read 210 = .ok (.iastore, 1) := by decide +kernel
theorem dX9_read_211 : decode cX9_read 211 = .ok (.iload_n 1, 1) := by decide +kernel
theorem dX9_read_212 : decode cX9_read 212 = .ok (.iload 5, 2) := by decide +kernel
theorem dX9_read_214 : decode cX9_read 214 = .ok (.iconst 3, 1) := by decide +kernel
theorem dX9_read_215 : decode cX9_read 215 = .ok (.if_icmp .ne 7, 3) := by decide +kernel
theorem dX9_read_218 : decode cX9_read 218 = .ok (.iconst 3, 1) := by decide +kernel
theorem dX9_read_219 : decode cX9_read 219 = .ok (.goto 4, 3) := by decide +kernel
theorem dX9_read_222 : decode cX9_read 222 = .ok (.iconst 1, 1) := by decide +kernel
theorem dX9_read_223 : decode cX9_read 223 = .ok (.iadd, 1) := by decide +kernel
theorem dX9_read_224 : decode cX9_read 224 = .ok (.istore_n 1, 1) := by decide +kernel
theorem dX9_read_225 : decode cX9_read 225 = .ok (.iconst 0, 1) := by decide +kernel
theorem dX9_read_226 : decode cX9_read 226 = .ok (.istore 6, 2) := by decide +kernel
theorem dX9_read_228 : decode cX9_read 228 = .ok (.iload 6, 2) := by decide +kernel
theorem dX9_read_230 : decode cX9_read 230 = .ok (.iload 5, 2) := by decide +kernel
theorem dX9_read_232 : decode cX9_read 232 = .ok (.invokestatic 113, 3) := by decide +kernel
theorem dX9_read_235 : decode cX9_read 235 = .ok (.if_icmp .ge 44, 3) := by decide +kernel
theorem dX9_read_238 : decode cX9_read 238 = .ok (.aload_n 0, 1) := by decide +kernel
theorem dX9_read_239 : decode cX9_read 239 = .ok (.getfield 37, 3) := by decide +kernel
theorem dX9_read_242 : decode cX9_read 242 = .ok (.iload_n 1, 1) := by decide +kernel
theorem dX9_read_243 : decode cX9_read 243 = .ok (.iload 5, 2) := by decide +kernel
theorem dX9_read_245 : decode cX9_read 245 = .ok (.bipush 12, 2) := by decide +kernel
theorem dX9_read_247 : decode cX9_read 247 = .ok (.if_icmp .eq 17, 3) := by decide +kernel
theorem dX9_read_250 : decode cX9_read 250 = .ok (.iload 5, 2) := by decide +kernel
theorem dX9_read_252 : decode cX9_read 252 = .ok (.bipush 13, 2) := by decide +kernel
theorem dX9_read_254 : decode cX9_read 254 = .ok (.if_icmp .eq 10, 3) := by decide +kernel
theorem dX9_read_257 : decode cX9_read 257 = .ok (.iload 5, 2) := by decide +kernel
theorem dX9_read_259 : decode cX9_read 259 = .ok (.bipush 14, 2) := by decide +kernel
theorem dX9_read_261 : decode cX9_read 261 = .ok (.if_icmp .ne 7, 3) := by decide +kernel
theorem dX9_read_264 : decode cX9_read 264 = .ok (.iconst 1, 1) := by decide +kernel
theorem dX9_read_265 : decode cX9_read 265 = .ok (.goto 4, 3) := by decide +kernel
theorem dX9_read_268 : decode cX9_read 268 = .ok (.iconst 2, 1) := by decide +kernel
theorem dX9_read_269 : decode cX9_read 269 = .ok (.iastore, 1) := by decide +kernel
theorem dX9_read_270 : decode cX9_read 270 = .ok (.iinc 1 1, 3) := by decide +kernel
theorem dX9_read_273 : decode cX9_read 273 = .ok (.iinc 6 1, 3) := by decide +kernel
theorem dX9_read_276 : decode cX9_read 276 = .ok (.goto (-48), 3) := by decide +kernel
theorem dX9_read_279 : decode cX9_read 279 = .ok (.iinc 2 1, 3) := by decide +kernel
theorem dX9_read_282 : decode cX9_read 282 = .ok (.goto (-271), 3) := by decide +kernel
theorem dX9_read_285 : decode cX9_read 285 = .ok (.iload_n 1, 1) := by decide +kernel
theorem dX9_read_286 : decode cX9_read 286 = .ok (.ifCond .le 8, 3) := by decide +kernel
theorem dX9_read_289 : decode cX9_read 289 = .ok (.aload_n 0, 1) := by decide +kernel
theorem dX9_read_290 : decode cX9_read 290 = .ok (.getfield 102, 3) := by decide +kernel
theorem dX9_read_293 : decode cX9_read 293 = .ok (.ireturn, 1) := by decide +kernel
theorem dX9_read_294 : decode cX9_read 294 = .ok (.aload_n 0, 1) := by decide +kernel
theorem dX9_read_295 : decode cX9_read 295 = .ok (.getfield 102, 3) := by decide +kernel
theorem dX9_read_298 : decode cX9_read 298 = .ok (.iconst 1, 1) := by decide +kernel
theorem dX9_read_299 : decode cX9_read 299 = .ok (.isub, 1) := by decide +kernel
theorem dX9_read_300 : decode cX9_read 300 = .ok (.istore_n 2, 1) := by decide +kernel
theorem dX9_read_301 : decode cX9_read 301 = .ok (.iload_n 2, 1) := by decide +kernel
theorem dX9_read_302 : decode cX9_read 302 = .ok (.ifCond .lt 149, 3) := by decide +kernel
theorem dX9_read_305 : decode cX9_read 305 = .ok (.aload_n 0, 1) := by decide +kernel
theorem dX9_read_306 : decode cX9_read 306 = .ok (.getfield 25, 3) := by decide +kernel
theorem dX9_read_309 : decode cX9_read 309 = .ok (.iload_n 2, 1) := by decide +kernel
theorem dX9_read_310 : decode cX9_read 310 = .ok (.iaload, 1) := by decide +kernel
theorem dX9_read_311 : decode cX9_read 311 = .ok (.ldc 74, 2) := by decide +kernel
theorem dX9_read_313 : decode cX9_read 313 = .ok (.if_icmp .eq 132, 3) := by decide +kernel
theorem dX9_read_316 : decode cX9_read 316 = .ok (.aload_n 0, 1) := by decide +kernel
theorem dX9_read_317 : decode cX9_read 317 = .ok (.getfield 25, 3) := by decide +kernel
theorem dX9_read_320 : decode cX9_read 320 = .ok (.iload_n 2, 1) := by decide +kernel
theorem dX9_read_321 : decode cX9_read 321 = .ok (.iaload, 1) := by decide +kernel
theorem dX9_read_322 : decode cX9_read 322 = .ok (.invokestatic 113, 3) := by decide +kernel
theorem dX9_read_325 : decode cX9_read 325 = .ok (.istore_n 3, 1) := by decide +kernel
theorem dX9_read_326 : decode cX9_read 326 = .ok (.aload_n 0, 1) := by decide +kernel
theorem dX9_read_327 : decode cX9_read 327 = .ok (.getfield 28, 3) := by decide +kernel
theorem dX9_read_330 : decode cX9_read 330 = .ok (.iload_n 2, 1) := by decide +kernel
theorem dX9_read_331 : decode cX9_read 331 = .ok (.iload_n 2, 1) := by decide +kernel
theorem dX9_read_332 : decode cX9_read 332 = .ok (.iconst 1, 1) := by decide +kernel
theorem dX9_read_333 : decode cX9_read 333 = .ok (.iadd, 1) := by decide +kernel
theorem dX9_read_334 : decode cX9_read 334 = .ok (.iastore, 1) := by decide +kernel
theorem dX9_read_335 : decode cX9_read 335 = .ok (.aload_n 0, 1) := by decide +kernel
theorem dX9_read_336 : decode cX9_read 336 = .ok (.getfield 31, 3) := by decide +kernel
theorem dX9_read_339 : decode cX9_read 339 = .ok (.iload_n 2, 1) := by decide +kernel
theorem dX9_read_340 : decode cX9_read 340 = .ok (.iload_n 3, 1) := by decide +kernel
theorem dX9_read_341 : decode cX9_read 341 = .ok (.ifCond .le 14, 3) := by decide +kernel
theorem dX9_read_344 : decode cX9_read 344 = .ok (.aload_n 0, 1) := by decide +kernel
theorem dX9_read_345 : decode cX9_read 345 = .ok (.getfield 34, 3) := by decide +kernel
theorem dX9_read_348 : decode cX9_read 348 = .ok (.iload_n 2, 1) := by decide +kernel
theorem dX9_read_349 : decode cX9_read 349 = .ok (.iconst 1, 1) := by decide +kernel
theorem dX9_read_350 : decode cX9_read 350 = .ok (.iadd, 1) := by decide +kernel
theorem dX9_read_351 : decode cX9_read 351 = .ok (.iaload, 1) := by decide +kernel
theorem dX9_read_352 : decode cX9_read 352 = .ok (.goto 6, 3) := by decide +kernel
theorem dX9_read_355 : decode cX9_read 355 = .ok (.iload_n 2, 1) := by decide +kernel
theorem dX9_read_356 : decode cX9_read 356 = .ok (.iconst 1, 1) := by decide +kernel
theorem dX9_read_357 : decode cX9_read 357 = .ok (.iadd, 1) := by decide +kernel
theorem dX9_read_358 : decode cX9_read 358 = .ok (.iastore, 1) := by decide +kernel
theorem dX9_read_359 : decode cX9_read 359 = .ok (.iload_n 3, 1) := by decide +kernel
theorem dX9_read_360 : decode cX9_read 360 = .ok (.iconst 1, 1) := by decide +kernel
theorem dX9_read_361 : decode cX9_read 361 = .ok (.if_icmp .le 17, 3) := by decide +kernel
theorem dX9_read_364 : decode cX9_read 364 = .ok (.aload_n 0, 1) := by decide +kernel
theorem dX9_read_365 : decode cX9_read 365 = .ok (.getfield 34, 3) := by decide +kernel
theorem dX9_read_368 : decode cX9_read 368 = .ok (.aload_n 0, 1) := by decide +kernel
theorem dX9_read_369 : decode cX9_read 369 = .ok (.getfield 31, 3) := by decide +kernel
theorem dX9_read_372 : decode cX9_read 372 = .ok (.iload_n 2, 1) := by decide +kernel
theorem dX9_read_373 : decode cX9_read 373 = .ok (.iaload, 1) := by decide +kernel
theorem dX9_read_374 : decode cX9_read 374 = .ok (.iaload, 1) := by decide +kernel
theorem dX9_read_375 : decode cX9_read 375 = .ok (.goto 9, 3) := by decide +kernel
theorem dX9_read_378 : decode cX9_read 378 = .ok (.aload_n 0, 1) := by decide +kernel
theorem dX9_read_379 : decode cX9_read 379 = .ok (.getfield 31, 3) := by decide +kernel
theorem dX9_read_382 : decode cX9_read 382 = .ok (.iload_n 2, 1) := by decide +kernel
theorem dX9_read_383 : decode cX9_read 383 = .ok (.iaload, 1) := by decide +kernel
theorem dX9_read_384 : decode cX9_read 384 = .ok (.istore 4, 2) := by decide +kernel
theorem dX9_read_386 : decode cX9_read 386 = .ok (.aload_n 0, 1) := by decide +kernel
theorem dX9_read_387 : decode cX9_read 387 = .ok (.getfield 34, 3) := by decide +kernel
theorem dX9_read_390 : decode cX9_read 390 = .ok (.iload_n 2, 1) := by decide +kernel
theorem dX9_read_391 : decode cX9_read 391 = .ok (.aload_n 0, 1) := by decide +kernel
theorem dX9_read_392 : decode cX9_read 392 = .ok (.getfield 25, 3) := by decide +kernel
theorem dX9_read_395 : decode cX9_read 395 = .ok (.iload_n 2, 1) := by decide +kernel
theorem dX9_read_396 : decode cX9_read 396 = .ok (.iaload, 1) := by decide +kernel
theorem dX9_read_397 : decode cX9_read 397 = .ok (.iconst 3, 1) := by decide +kernel
theorem dX9_read_398 : decode cX9_read 398 = .ok (.if_icmp .ne 9, 3) := by decide +kernel
theorem dX9_read_401 : decode cX9_read 401 = .ok (.iload_n 2, 1) := by decide +kernel
theorem dX9_read_402 : decode cX9_read 402 = .ok (.iconst 4, 1) := by decide +kernel
theorem dX9_read_403 : decode cX9_read 403 = .ok (.iadd, 1) := by decide +kernel
theorem dX9_read_404 : decode cX9_read 404 = .ok (.goto 40, 3) := by decide +kernel
theorem dX9_read_407 : decode cX9_read 407 = .ok (.aload_n 0, 1) := by decide +kernel
theorem dX9_read_408 : decode cX9_read 408 = .ok (.getfield 25, 3) := by decide +kernel
theorem dX9_read_411 : decode cX9_read 411 = .ok (.iload_n 2, 1) := by decide +kernel
theorem dX9_read_412 : decode cX9_read 412 = .ok (.iaload, 1) := by decide +kernel
theorem dX9_read_413 : decode cX9_read 413 = .ok (.bipush 8, 2) := by decide +kernel
theorem dX9_read_415 : decode cX9_read 415 = .ok (.if_icmp .ne 10, 3) := by decide +kernel
theorem dX9_read_418 : decode cX9_read 418 = .ok (.iload 4, 2) := by decide +kernel
theorem dX9_read_420 : decode cX9_read 420 = .ok (.iconst 1, 1) := by decide +kernel
theorem dX9_read_421 : decode cX9_read 421 = .ok (.iadd, 1) := by decide +kernel
theorem dX9_read_422 : decode cX9_read 422 = .ok (.goto 22, 3) := by decide +kernel
theorem dX9_read_425 : decode cX9_read 425 = .ok (.aload_n 0, 1) := by decide +kernel
theorem dX9_read_426 : decode cX9_read 426 = .ok (.getfield 25, 3) := by decide +kernel
theorem dX9_read_429 : decode cX9_read 429 = .ok (.iload_n 2, 1) := by decide +kernel
theorem dX9_read_430 : decode cX9_read 430 = .ok (.iaload, 1) := by decide +kernel
theorem dX9_read_431 : decode cX9_read 431 = .ok (.bipush 15, 2) := by decide +kernel
theorem dX9_read_433 : decode cX9_read 433 = .ok (.if_icmp .ne 9, 3) := by decide +kernel
theorem dX9_read_436 : decode cX9_read 436 = .ok (.iload_n 2, 1) := by decide +kernel
theorem dX9_read_437 : decode cX9_read 437 = .ok (.iconst 2, 1) := by decide +kernel
theorem dX9_read_438 : decode cX9_read 438 = .ok (.iadd, 1) := by decide +kernel
theorem dX9_read_439 : decode cX9_read 439 = .ok (.goto 5, 3) := by decide +kernel
theorem dX9_read_442 : decode cX9_read 442 = .ok (.iload 4, 2) := by decide +kernel
theorem dX9_read_444 : decode cX9_read 444 = .ok (.iastore, 1) := by decide +kernel
theorem dX9_read_445 : decode cX9_read 445 = .ok (.iinc 2 (-1), 3) := by decide +kernel
theorem dX9_read_448 : decode cX9_read 448 = .ok (.goto (-147), 3) := by decide +kernel
theorem dX9_read_451 : decode cX9_read 451 = .ok (.ldc 74, 2) := by decide +kernel
theorem dX9_read_453 : decode cX9_read 453 = .ok (.ireturn, 1) := by decide +kernel
theorem dX9_fault_0 : decode cX9_fault 0 = .ok (.aload_n 0, 1) := by decide +kernel
theorem dX9_fault_1 : decode cX9_fault 1 = .ok (.invokevirtual 116, 3) := by decide +kernel
theorem dX9_fault_4 : decode cX9_fault 4 = .ok (.ireturn, 1) := by decide +kernel
theorem dX9_isTerm_0 : decode cX9_isTerm 0 = .ok (.aload_n 0, 1) := by decide +kernel
theorem dX9_isTerm_1 : decode cX9_isTerm 1 = .ok (.getfield 25, 3) := by decide +kernel
theorem dX9_isTerm_4 : decode cX9_isTerm 4 = .ok (.iload_n 1, 1) := by decide +kernel
theorem dX9_isTerm_5 : decode cX9_isTerm 5 = .ok (.iaload, 1) := by decide +kernel
theorem dX9_isTerm_6 : decode cX9_isTerm 6 = .ok (.ldc 74, 2) := by decide +kernel
theorem dX9_isTerm_8 : decode cX9_isTerm 8 = .ok (.if_icmp .eq 18, 3) := by decide +kernel
theorem dX9_isTerm_11 : decode cX9_isTerm 11 = .ok (.aload_n 0, 1) := by decide +kernel
theorem dX9_isTerm_12 : decode cX9_isTerm 12 = .ok (.getfield 25, 3) := by decide +kernel
theorem dX9_isTerm_15 : decode cX9_isTerm 15 = .ok (.iload_n 1, 1) := by decide +kernel
theorem dX9_isTerm_16 : decode cX9_isTerm 16 = .ok (.iaload, 1) := by decide +kernel
theorem dX9_isTerm_17 : decode cX9_isTerm 17 = .ok (.bipush 10, 2) := by decide +kernel
theorem dX9_isTerm_19 : decode cX9_isTerm 19 = .ok (.if_icmp .ge 7, 3) := by decide +kernel
theorem dX9_isTerm_22 : decode cX9_isTerm 22 = .ok (.iconst 1, 1) := by decide +kernel
theorem dX9_isTerm_23 : decode cX9_isTerm 23 = .ok (.goto 4, 3) := by decide +kernel
theorem dX9_isTerm_26 : decode cX9_isTerm 26 = .ok (.iconst 0, 1) := by decide +kernel
theorem dX9_isTerm_27 : decode cX9_isTerm 27 = .ok (.ireturn, 1) := by decide +kernel
theorem dX9_cut_0 : decode cX9_cut 0 = .ok (.lload_n 0, 1) := by decide +kernel
theorem dX9_cut_1 : decode cX9_cut 1 = .ok (.ldc2_w 120, 3) := by decide +kernel
theorem dX9_cut_4 : decode cX9_cut 4 = .ok (.lcmp, 1) := by decide +kernel
theorem dX9_cut_5 : decode cX9_cut 5 = .ok (.ifCond .ge 8, 3) := by decide +kernel
theorem dX9_cut_8 : decode cX9_cut 8 = .ok (.ldc 122, 2) := by decide +kernel
theorem dX9_cut_10 : decode cX9_cut 10 = .ok (.goto 18, 3) := by decide +kernel
theorem dX9_cut_13 : decode cX9_cut 13 = .ok (.lload_n 0, 1) := by decide +kernel
theorem dX9_cut_14 : decode cX9_cut 14 = .ok (.ldc2_w 123, 3) := by decide +kernel
theorem dX9_cut_17 : decode cX9_cut 17 = .ok (.lcmp, 1) := by decide +kernel
theorem dX9_cut_18 : decode cX9_cut 18 = .ok (.ifCond .le 8, 3) := by decide +kernel
theorem dX9_cut_21 : decode cX9_cut 21 = .ok (.ldc 125, 2) := by decide +kernel
theorem dX9_cut_23 : decode cX9_cut 23 = .ok (.goto 5, 3) := by decide +kernel
theorem dX9_cut_26 : decode cX9_cut 26 = .ok (.lload_n 0, 1) := by decide +kernel
theorem dX9_cut_27 : decode cX9_cut 27 = .ok (.l2i, 1) := by decide +kernel
theorem dX9_cut_28 : decode cX9_cut 28 = .ok (.ireturn, 1) := by decide +kernel
theorem dX9_byteOf_0 : decode cX9_byteOf 0 = .ok (.iload_n 0, 1) := by decide +kernel
theorem dX9_byteOf_1 : decode cX9_byteOf 1 = .ok (.sipush 256, 3) := by decide +kernel
theorem dX9_byteOf_4 : decode cX9_byteOf 4 = .ok (.irem, 1) := by decide +kernel
theorem dX9_byteOf_5 : decode cX9_byteOf 5 = .ok (.sipush 256, 3) := by decide +kernel
theorem dX9_byteOf_8 : decode cX9_byteOf 8 = .ok (.iadd, 1) := by decide +kernel
theorem dX9_byteOf_9 : decode cX9_byteOf 9 = .ok (.sipush 256, 3) := by decide +kernel
theorem dX9_byteOf_12 : decode cX9_byteOf 12 = .ok (.irem, 1) := by decide +kernel
theorem dX9_byteOf_13 : decode cX9_byteOf 13 = .ok (.istore_n 1, 1) := by decide +kernel
theorem dX9_byteOf_14 : decode cX9_byteOf 14 = .ok (.iload_n 1, 1) := by decide +kernel
theorem dX9_byteOf_15 : decode cX9_byteOf 15 = .ok (.bipush 127, 2) := by decide +kernel
theorem dX9_byteOf_17 : decode cX9_byteOf 17 = .ok (.if_icmp .le 11, 3) := by decide +kernel
theorem dX9_byteOf_20 : decode cX9_byteOf 20 = .ok (.iload_n 1, 1) := by decide +kernel
theorem dX9_byteOf_21 : decode cX9_byteOf 21 = .ok (.sipush 256, 3) := by decide +kernel
theorem dX9_byteOf_24 : decode cX9_byteOf 24 = .ok (.isub, 1) := by decide +kernel
theorem dX9_byteOf_25 : decode cX9_byteOf 25 = .ok (.goto 4, 3) := by decide +kernel
theorem dX9_byteOf_28 : decode cX9_byteOf 28 = .ok (.iload_n 1, 1) := by decide +kernel
theorem dX9_byteOf_29 : decode cX9_byteOf 29 = .ok (.ireturn, 1) := by decide +kernel
theorem dX9_three_0 : decode cX9_three 0 = .ok (.bipush 100, 2) := by decide +kernel
theorem dX9_three_2 : decode cX9_three 2 = .ok (.aload_n 0, 1) := by decide +kernel
theorem dX9_three_3 : decode cX9_three 3 = .ok (.getfield 22, 3) := by decide +kernel
theorem dX9_three_6 : decode cX9_three 6 = .ok (.iload_n 1, 1) := by decide +kernel
theorem dX9_three_7 : decode cX9_three 7 = .ok (.iconst 1, 1) := by decide +kernel
theorem dX9_three_8 : decode cX9_three 8 = .ok (.iadd, 1) := by decide +kernel
theorem dX9_three_9 : decode cX9_three 9 = .ok (.iaload, 1) := by decide +kernel
theorem dX9_three_10 : decode cX9_three 10 = .ok (.bipush 48, 2) := by decide +kernel
theorem dX9_three_12 : decode cX9_three 12 = .ok (.isub, 1) := by decide +kernel
theorem dX9_three_13 : decode cX9_three 13 = .ok (.imul, 1) := by decide +kernel
theorem dX9_three_14 : decode cX9_three 14 = .ok (.bipush 10, 2) := by decide +kernel
theorem dX9_three_16 : decode cX9_three 16 = .ok (.aload_n 0, 1) := by decide +kernel
theorem dX9_three_17 : decode cX9_three 17 = .ok (.getfield 22, 3) := by decide +kernel
theorem dX9_three_20 : decode cX9_three 20 = .ok (.iload_n 1, 1) := by decide +kernel
theorem dX9_three_21 : decode cX9_three 21 = .ok (.iconst 2, 1) := by decide +kernel
theorem dX9_three_22 : decode cX9_three 22 = .ok (.iadd, 1) := by decide +kernel
theorem dX9_three_23 : decode cX9_three 23 = .ok (.iaload, 1) := by decide +kernel
theorem dX9_three_24 : decode cX9_three 24 = .ok (.bipush 48, 2) := by decide +kernel
theorem dX9_three_26 : decode cX9_three 26 = .ok (.isub, 1) := by decide +kernel
theorem dX9_three_27 : decode cX9_three 27 = .ok (.imul, 1) := by decide +kernel
theorem dX9_three_28 : decode cX9_three 28 = .ok (.iadd, 1) := by decide +kernel
theorem dX9_three_29 : decode cX9_three 29 = .ok (.aload_n 0, 1) := by decide +kernel
theorem dX9_three_30 : decode cX9_three 30 = .ok (.getfield 22, 3) := by decide +kernel
theorem dX9_three_33 : decode cX9_three 33 = .ok (.iload_n 1, 1) := by decide +kernel
theorem dX9_three_34 : decode cX9_three 34 = .ok (.iconst 3, 1) := by decide +kernel
theorem dX9_three_35 : decode cX9_three 35 = .ok (.iadd, 1) := by decide +kernel
theorem dX9_three_36 : decode cX9_three 36 = .ok (.iaload, 1) := by decide +kernel
theorem dX9_three_37 : decode cX9_three 37 = .ok (.iadd, 1) := by decide +kernel
theorem dX9_three_38 : decode cX9_three 38 = .ok (.bipush 48, 2) := by decide +kernel
theorem dX9_three_40 : decode cX9_three 40 = .ok (.isub, 1) := by decide +kernel
theorem dX9_three_41 : decode cX9_three 41 = .ok (.ireturn, 1) := by decide +kernel
theorem dX9_layRow_0 : decode cX9_layRow 0 = .ok (.aload_n 0, 1) := by decide +kernel
theorem dX9_layRow_1 : decode cX9_layRow 1 = .ok (.getfield 102, 3) := by decide +kernel
theorem dX9_layRow_4 : decode cX9_layRow 4 = .ok (.iconst 1, 1) := by decide +kernel
theorem dX9_layRow_5 : decode cX9_layRow 5 = .ok (.isub, 1) := by decide +kernel
theorem dX9_layRow_6 : decode cX9_layRow 6 = .ok (.istore_n 1, 1) := by decide +kernel
theorem dX9_layRow_7 : decode cX9_layRow 7 = .ok (.iload_n 1, 1) := by decide +kernel
theorem dX9_layRow_8 : decode cX9_layRow 8 = .ok (.ifCond .lt 47, 3) := by decide +kernel
theorem dX9_layRow_11 : decode cX9_layRow 11 = .ok (.aload_n 0, 1) := by decide +kernel
theorem dX9_layRow_12 : decode cX9_layRow 12 = .ok (.getfield 25, 3) := by decide +kernel
theorem dX9_layRow_15 : decode cX9_layRow 15 = .ok (.iload_n 1, 1) := by decide +kernel
theorem dX9_layRow_16 : decode cX9_layRow 16 = .ok (.iaload, 1) := by decide +kernel
theorem dX9_layRow_17 : decode cX9_layRow 17 = .ok (.ldc 74, 2) := by decide +kernel
theorem dX9_layRow_19 : decode cX9_layRow 19 = .ok (.if_icmp .eq 30, 3) := by decide +kernel
theorem dX9_layRow_22 : decode cX9_layRow 22 = .ok (.aload_n 0, 1) := by decide +kernel
theorem dX9_layRow_23 : decode cX9_layRow 23 = .ok (.getfield 40, 3) := by decide +kernel
theorem dX9_layRow_26 : decode cX9_layRow 26 = .ok (.iload_n 1, 1) := by decide +kernel
theorem dX9_layRow_27 : decode cX9_layRow 27 = .ok (.aload_n 0, 1) := by decide +kernel
theorem dX9_layRow_28 : decode cX9_layRow 28 = .ok (.iload_n 1, 1) := by decide +kernel
theorem dX9_layRow_29 : decode cX9_layRow 29 = .ok (.invokevirtual 126, 3) := by decide +kernel
theorem dX9_layRow_32 : decode cX9_layRow 32 = .ok (.ifCond .eq 11, 3) := by decide +kernel
theorem dX9_layRow_35 : decode cX9_layRow 35 = .ok (.aload_n 0, 1) := by decide +kernel
theorem dX9_layRow_36 : decode cX9_layRow 36 = .ok (.iload_n 1, 1) := by decide +kernel
theorem dX9_layRow_37 : decode cX9_layRow 37 = .ok (.invokevirtual 129, 3) := by decide +kernel
theorem dX9_layRow_40 : decode cX9_layRow 40 = .ok (.goto 8, 3) := by decide +kernel
theorem dX9_layRow_43 : decode cX9_layRow 43 = .ok (.aload_n 0, 1) := by decide +kernel
theorem dX9_layRow_44 : decode cX9_layRow 44 = .ok (.iload_n 1, 1) := by decide +kernel
theorem dX9_layRow_45 : decode cX9_layRow 45 = .ok (.invokevirtual 132, 3) := by decide +kernel
theorem dX9_layRow_48 : decode cX9_layRow 48 = .ok (.iastore, 1) := by decide +kernel
theorem dX9_layRow_49 : decode cX9_layRow 49 = .ok (.iinc 1 (-1), 3) := by decide +kernel
theorem dX9_layRow_52 : decode cX9_layRow 52 = .ok (.goto (-45), 3) := by decide +kernel
theorem dX9_layRow_55 : decode cX9_layRow 55 = .ok (.return_, 1) := by decide +kernel
theorem dX9_number_0 : decode cX9_number 0 = .ok (.aload_n 0, 1) := by decide +kernel
theorem dX9_number_1 : decode cX9_number 1 = .ok (.getfield 40, 3) := by decide +kernel
theorem dX9_number_4 : decode cX9_number 4 = .ok (.aload_n 0, 1) := by decide +kernel
theorem dX9_number_5 : decode cX9_number 5 = .ok (.getfield 28, 3) := by decide +kernel
theorem dX9_number_8 : decode cX9_number 8 = .ok (.iload_n 1, 1) := by decide +kernel
theorem dX9_number_9 : decode cX9_number 9 = .ok (.iaload, 1) := by decide +kernel
theorem dX9_number_10 : decode cX9_number 10 = .ok (.bipush 60, 2) := by decide +kernel
theorem dX9_number_12 : decode cX9_number 12 = .ok (.if_icmp .ge 12, 3) := by decide +kernel
theorem dX9_number_15 : decode cX9_number 15 = .ok (.aload_n 0, 1) := by decide +kernel
theorem dX9_number_16 : decode cX9_number 16 = .ok (.getfield 28, 3) := by decide +kernel
theorem dX9_number_19 : decode cX9_number 19 = .ok (.iload_n 1, 1) := by decide +kernel
theorem dX9_number_20 : decode cX9_number 20 = .ok (.iaload, 1) := by decide +kernel
theorem dX9_number_21 : decode cX9_number 21 = .ok (.goto 4, 3) := by decide +kernel
theorem dX9_number_24 : decode cX9_number 24 = .ok (.iconst 0, 1) := by decide +kernel
theorem dX9_number_25 : decode cX9_number 25 = .ok (.iaload, 1) := by decide +kernel
theorem dX9_number_26 : decode cX9_number 26 = .ok (.istore_n 2, 1) := by decide +kernel
theorem dX9_number_27 : decode cX9_number 27 = .ok (.aload_n 0, 1) := by decide +kernel
theorem dX9_number_28 : decode cX9_number 28 = .ok (.getfield 40, 3) := by decide +kernel
theorem dX9_number_31 : decode cX9_number 31 = .ok (.aload_n 0, 1) := by decide +kernel
theorem dX9_number_32 : decode cX9_number 32 = .ok (.getfield 31, 3) := by decide +kernel
theorem dX9_number_35 : decode cX9_number 35 = .ok (.iload_n 1, 1) := by decide +kernel
theorem dX9_number_36 : decode cX9_number 36 = .ok (.iaload, 1) := by decide +kernel
theorem dX9_number_37 : decode cX9_number 37 = .ok (.bipush 60, 2) := by decide +kernel
theorem dX9_number_39 : decode cX9_number 39 = .ok (.if_icmp .ge 12, 3) := by decide +kernel
theorem dX9_number_42 : decode cX9_number 42 = .ok (.aload_n 0, 1) := by decide +kernel
theorem dX9_number_43 : decode cX9_number 43 = .ok (.getfield 31, 3) := by decide +kernel
theorem dX9_number_46 : decode cX9_number 46 = .ok (.iload_n 1, 1) := by decide +kernel
theorem dX9_number_47 : decode cX9_number 47 = .ok (.iaload, 1) := by decide +kernel
theorem dX9_number_48 : decode cX9_number 48 = .ok (.goto 4, 3) := by decide +kernel
theorem dX9_number_51 : decode cX9_number 51 = .ok (.iconst 0, 1) := by decide +kernel
theorem dX9_number_52 : decode cX9_number 52 = .ok (.iaload, 1) := by decide +kernel
theorem dX9_number_53 : decode cX9_number 53 = .ok (.istore_n 3, 1) := by decide +kernel
theorem dX9_number_54 : decode cX9_number 54 = .ok (.aload_n 0, 1) := by decide +kernel
theorem dX9_number_55 : decode cX9_number 55 = .ok (.getfield 25, 3) := by decide +kernel
theorem dX9_number_58 : decode cX9_number 58 = .ok (.iload_n 1, 1) := by decide +kernel
theorem dX9_number_59 : decode cX9_number 59 = .ok (.iaload, 1) := by decide +kernel
theorem dX9_number_60 : decode cX9_number 60 = .ok (.invokestatic 113, 3) := by decide +kernel
theorem dX9_number_63 : decode cX9_number 63 = .ok (.istore 4, 2) := by decide +kernel
theorem dX9_number_65 : decode cX9_number 65 = .ok (.iload 4, 2) := by decide +kernel
theorem dX9_number_67 : decode cX9_number 67 = .ok (.ifCond .le 9, 3) := by decide +kernel
theorem dX9_number_70 : decode cX9_number 70 = .ok (.iload_n 2, 1) := by decide +kernel
theorem dX9_number_71 : decode cX9_number 71 = .ok (.ldc 74, 2) := by decide +kernel
theorem dX9_number_73 : decode cX9_number 73 = .ok (.if_icmp .eq 15, 3) := by decide +kernel
theorem dX9_number_76 : decode cX9_number 76 = .ok (.iload 4, 2) := by decide +kernel
theorem dX9_number_78 : decode cX9_number 78 = .ok (.iconst 1, 1) := by decide +kernel
theorem dX9_number_79 : decode cX9_number 79 = .ok (.if_icmp .le 12, 3) := by decide +kernel
theorem dX9_number_82 : decode cX9_number 82 = .ok (.iload_n 3, 1) := by decide +kernel
theorem dX9_number_83 : decode cX9_number 83 = .ok (.ldc 74, 2) := by decide +kernel
theorem dX9_number_85 : decode cX9_number 85 = .ok (.if_icmp .ne 6, 3) := by decide +kernel
theorem dX9_number_88 : decode cX9_number 88 = .ok (.ldc 74, 2) := by decide +kernel
theorem dX9_number_90 : decode cX9_number 90 = .ok (.ireturn, 1) := by decide +kernel
theorem dX9_number_91 : decode cX9_number 91 = .ok (.aload_n 0, 1) := by decide +kernel
theorem dX9_number_92 : decode cX9_number 92 = .ok (.getfield 25, 3) := by decide +kernel
theorem dX9_number_95 : decode cX9_number 95 = .ok (.iload_n 1, 1) := by decide +kernel
theorem dX9_number_96 : decode cX9_number 96 = .ok (.iaload, 1) := by decide +kernel
theorem dX9_number_97 : decode cX9_number 97 = .ok (.tableswitch 152 1 8 #[47, 87, 97, 103, 106, 115, 124, 133], 47) := by decide +kernel
theorem dX9_number_144 : decode cX9_number 144 = .ok (.aload_n 0, 1) := by decide +kernel
theorem dX9_number_145 : decode cX9_number 145 = .ok (.getfield 43, 3) := by decide +kernel
theorem dX9_number_148 : decode cX9_number 148 = .ok (.aload_n 0, 1) := by decide +kernel
theorem dX9_number_149 : decode cX9_number 149 = .ok (.getfield 22, 3) := by decide +kernel
theorem dX9_number_152 : decode cX9_number 152 = .ok (.iload_n 1, 1) := by decide +kernel
theorem dX9_number_153 : decode cX9_number 153 = .ok (.iaload, 1) := by decide +kernel
theorem dX9_number_154 : decode cX9_number 154 = .ok (.bipush 97, 2) := by decide +kernel
theorem dX9_number_156 : decode cX9_number 156 = .ok (.isub, 1) := by decide +kernel
theorem dX9_number_157 : decode cX9_number 157 = .ok (.iaload, 1) := by decide +kernel
theorem dX9_number_158 : decode cX9_number 158 = .ok (.sipush 1000, 3) := by decide +kernel
theorem dX9_number_161 : decode cX9_number 161 = .ok (.if_icmp .ne 8, 3) := by decide +kernel
theorem dX9_number_164 : decode cX9_number 164 = .ok (.ldc 74, 2) := by decide +kernel
theorem dX9_number_166 : decode cX9_number 166 = .ok (.goto 17, 3) := by decide +kernel
theorem dX9_number_169 : decode cX9_number 169 = .ok (.aload_n 0, 1) := by decide +kernel
theorem dX9_number_170 : decode cX9_number 170 = .ok (.getfield 43, 3) := by decide +kernel
theorem dX9_number_173 : decode cX9_number 173 = .ok (.aload_n 0, 1) := by decide +kernel
theorem dX9_number_174 : decode cX9_number 174 = .ok (.getfield 22, 3) := by decide +kernel
theorem dX9_number_177 : decode cX9_number 177 = .ok (.iload_n 1, 1) := by decide +kernel
theorem dX9_number_178 : decode cX9_number 178 = .ok (.iaload, 1) := by decide +kernel
theorem dX9_number_179 : decode cX9_number 179 = .ok (.bipush 97, 2) := by decide +kernel
theorem dX9_number_181 : decode cX9_number 181 = .ok (.isub, 1) := by decide +kernel
theorem dX9_number_182 : decode cX9_number 182 = .ok (.iaload, 1) := by decide +kernel
theorem dX9_number_183 : decode cX9_number 183 = .ok (.ireturn, 1) := by decide +kernel
theorem dX9_number_184 : decode cX9_number 184 = .ok (.aload_n 0, 1) := by decide +kernel
theorem dX9_number_185 : decode cX9_number 185 = .ok (.getfield 22, 3) := by decide +kernel
theorem dX9_number_188 : decode cX9_number 188 = .ok (.iload_n 1, 1) := by decide +kernel
theorem dX9_number_189 : decode cX9_number 189 = .ok (.iaload, 1) := by decide +kernel
theorem dX9_number_190 : decode cX9_number 190 = .ok (.bipush 48, 2) := by decide +kernel
theorem dX9_number_192 : decode cX9_number 192 = .ok (.isub, 1) := by decide +kernel
theorem dX9_number_193 : decode cX9_number 193 = .ok (.ireturn, 1) := by decide +kernel
theorem dX9_number_194 : decode cX9_number 194 = .ok (.aload_n 0, 1) := by decide +kernel
theorem dX9_number_195 : decode cX9_number 195 = .ok (.iload_n 1, 1) := by decide +kernel
theorem dX9_number_196 : decode cX9_number 196 = .ok (.invokevirtual 135, 3) := by decide +kernel
theorem dX9_number_199 : decode cX9_number 199 = .ok (.ireturn, 1) := by decide +kernel
theorem dX9_number_200 : decode cX9_number 200 = .ok (.iload_n 2, 1) := by decide +kernel
theorem dX9_number_201 : decode cX9_number 201 = .ok (.ineg, 1) := by decide +kernel
theorem dX9_number_202 : decode cX9_number 202 = .ok (.ireturn, 1) := by decide +kernel
theorem dX9_number_203 : decode cX9_number 203 = .ok (.iload_n 2, 1) := by decide +kernel
theorem dX9_number_204 : decode cX9_number 204 = .ok (.i2l, 1) := by decide +kernel
theorem dX9_number_205 : decode cX9_number 205 = .ok (.iload_n 3, 1) := by decide +kernel
theorem dX9_number_206 : decode cX9_number 206 = .ok (.i2l, 1) := by decide +kernel
theorem dX9_number_207 : decode cX9_number 207 = .ok (.ladd, 1) := by decide +kernel
theorem dX9_number_208 : decode cX9_number 208 = .ok (.invokestatic 138, 3) := by decide +kernel
theorem dX9_number_211 : decode cX9_number 211 = .ok (.ireturn, 1) := by decide +kernel
theorem dX9_number_212 : decode cX9_number 212 = .ok (.iload_n 2, 1) := by decide +kernel
theorem dX9_number_213 : decode cX9_number 213 = .ok (.i2l, 1) := by decide +kernel
theorem dX9_number_214 : decode cX9_number 214 = .ok (.iload_n 3, 1) := by decide +kernel
theorem dX9_number_215 : decode cX9_number 215 = .ok (.i2l, 1) := by decide +kernel
theorem dX9_number_216 : decode cX9_number 216 = .ok (.lsub, 1) := by decide +kernel
theorem dX9_number_217 : decode cX9_number 217 = .ok (.invokestatic 138, 3) := by decide +kernel
theorem dX9_number_220 : decode cX9_number 220 = .ok (.ireturn, 1) := by decide +kernel
theorem dX9_number_221 : decode cX9_number 221 = .ok (.iload_n 2, 1) := by decide +kernel
theorem dX9_number_222 : decode cX9_number 222 = .ok (.i2l, 1) := by decide +kernel
theorem dX9_number_223 : decode cX9_number 223 = .ok (.iload_n 3, 1) := by decide +kernel
theorem dX9_number_224 : decode cX9_number 224 = .ok (.i2l, 1) := by decide +kernel
theorem dX9_number_225 : decode cX9_number 225 = .ok (.lmul, 1) := by decide +kernel
theorem dX9_number_226 : decode cX9_number 226 = .ok (.invokestatic 138, 3) := by decide +kernel
theorem dX9_number_229 : decode cX9_number 229 = .ok (.ireturn, 1) := by decide +kernel
theorem dX9_number_230 : decode cX9_number 230 = .ok (.iload_n 2, 1) := by decide +kernel
theorem dX9_number_231 : decode cX9_number 231 = .ok (.aload_n 0, 1) := by decide +kernel
theorem dX9_number_232 : decode cX9_number 232 = .ok (.getfield 22, 3) := by decide +kernel
theorem dX9_number_235 : decode cX9_number 235 = .ok (.aload_n 0, 1) := by decide +kernel
theorem dX9_number_236 : decode cX9_number 236 = .ok (.getfield 34, 3) := by decide +kernel
theorem dX9_number_239 : decode cX9_number 239 = .ok (.iload_n 1, 1) := by decide +kernel
theorem dX9_number_240 : decode cX9_number 240 = .ok (.iaload, 1) := by decide +kernel
theorem dX9_number_241 : decode cX9_number 241 = .ok (.iconst 1, 1) := by decide +kernel
theorem dX9_number_242 : decode cX9_number 242 = .ok (.isub, 1) := by decide +kernel
theorem dX9_number_243 : decode cX9_number 243 = .ok (.iaload, 1) := by decide +kernel
theorem dX9_number_244 : decode cX9_number 244 = .ok (.bipush 48, 2) := by decide +kernel
theorem dX9_number_246 : decode cX9_number 246 = .ok (.isub, 1) := by decide +kernel
theorem dX9_number_247 : decode cX9_number 247 = .ok (.irem, 1) := by decide +kernel
theorem dX9_number_248 : decode cX9_number 248 = .ok (.ireturn, 1) := by decide +kernel
theorem dX9_number_249 : decode cX9_number 249 = .ok (.iload_n 2, 1) := by decide +kernel
theorem dX9_number_250 : decode cX9_number 250 = .ok (.invokestatic 142, 3) := by decide +kernel
theorem dX9_number_253 : decode cX9_number 253 = .ok (.ireturn, 1) := by decide +kernel
theorem dX9_not_0 : decode cX9_not 0 = .ok (.iload_n 0, 1) := by decide +kernel
theorem dX9_not_1 : decode cX9_not 1 = .ok (.iconst 2, 1) := by decide +kernel
theorem dX9_not_2 : decode cX9_not 2 = .ok (.if_icmp .ne 7, 3) := by decide +kernel
theorem dX9_not_5 : decode cX9_not 5 = .ok (.iconst 2, 1) := by decide +kernel
theorem dX9_not_6 : decode cX9_not 6 = .ok (.goto 6, 3) := by decide +kernel
theorem dX9_not_9 : decode cX9_not 9 = .ok (.iconst 1, 1) := by decide +kernel
theorem dX9_not_10 : decode cX9_not 10 = .ok (.iload_n 0, 1) := by decide +kernel
theorem dX9_not_11 : decode cX9_not 11 = .ok (.isub, 1) := by decide +kernel
theorem dX9_not_12 : decode cX9_not 12 = .ok (.ireturn, 1) := by decide +kernel
theorem dX9_both_0 : decode cX9_both 0 = .ok (.iload_n 0, 1) := by decide +kernel
theorem dX9_both_1 : decode cX9_both 1 = .ok (.ifCond .eq 7, 3) := by decide +kernel
theorem dX9_both_4 : decode cX9_both 4 = .ok (.iload_n 1, 1) := by decide +kernel
theorem dX9_both_5 : decode cX9_both 5 = .ok (.ifCond .ne 7, 3) := by decide +kernel
theorem dX9_both_8 : decode cX9_both 8 = .ok (.iconst 0, 1) := by decide +kernel
theorem dX9_both_9 : decode cX9_both 9 = .ok (.goto 18, 3) := by decide +kernel
theorem dX9_both_12 : decode cX9_both 12 = .ok (.iload_n 0, 1) := by decide +kernel
theorem dX9_both_13 : decode cX9_both 13 = .ok (.iconst 2, 1) := by decide +kernel
theorem dX9_both_14 : decode cX9_both 14 = .ok (.if_icmp .eq 8, 3) := by decide +kernel
theorem dX9_both_17 : decode cX9_both 17 = .ok (.iload_n 1, 1) := by decide +kernel
theorem dX9_both_18 : decode cX9_both 18 = .ok (.iconst 2, 1) := by decide +kernel
theorem dX9_both_19 : decode cX9_both 19 = .ok (.if_icmp .ne 7, 3) := by decide +kernel
theorem dX9_both_22 : decode cX9_both 22 = .ok (.iconst 2, 1) := by decide +kernel
theorem dX9_both_23 : decode cX9_both 23 = .ok (.goto 4, 3) := by decide +kernel
theorem dX9_both_26 : decode cX9_both 26 = .ok (.iconst 1, 1) := by decide +kernel
theorem dX9_both_27 : decode cX9_both 27 = .ok (.ireturn, 1) := by decide +kernel
theorem dX9_either_0 : decode cX9_either 0 = .ok (.iload_n 0, 1) := by decide +kernel
theorem dX9_either_1 : decode cX9_either 1 = .ok (.invokestatic 145, 3) := by decide +kernel
theorem dX9_either_4 : decode cX9_either 4 = .ok (.iload_n 1, 1) := by decide +kernel
theorem dX9_either_5 : decode cX9_either 5 = .ok (.invokestatic 145, 3) := by decide +kernel
theorem dX9_either_8 : decode cX9_either 8 = .ok (.invokestatic 148, 3) := by decide +kernel
theorem dX9_either_11 : decode cX9_either 11 = .ok (.invokestatic 145, 3) := by decide +kernel
theorem dX9_either_14 : decode cX9_either 14 = .ok (.ireturn, 1) := by decide +kernel
theorem dX9_truthAt_0 : decode cX9_truthAt 0 = .ok (.aload_n 0, 1) := by decide +kernel
theorem dX9_truthAt_1 : decode cX9_truthAt 1 = .ok (.getfield 40, 3) := by decide +kernel
theorem dX9_truthAt_4 : decode cX9_truthAt 4 = .ok (.aload_n 0, 1) := by decide +kernel
theorem dX9_truthAt_5 : decode cX9_truthAt 5 = .ok (.getfield 28, 3) := by decide +kernel
theorem dX9_truthAt_8 : decode cX9_truthAt 8 = .ok (.iload_n 1, 1) := by decide +kernel
theorem dX9_truthAt_9 : decode cX9_truthAt 9 = .ok (.iaload, 1) := by decide +kernel
theorem dX9_truthAt_10 : decode cX9_truthAt 10 = .ok (.iaload, 1) := by decide +kernel
theorem dX9_truthAt_11 : decode cX9_truthAt 11 = .ok (.istore_n 2, 1) := by decide +kernel
theorem dX9_truthAt_12 : decode cX9_truthAt 12 = .ok (.aload_n 0, 1) := by decide +kernel
theorem dX9_truthAt_13 : decode cX9_truthAt 13 = .ok (.getfield 25, 3) := by decide +kernel
theorem dX9_truthAt_16 : decode cX9_truthAt 16 = .ok (.iload_n 1, 1) := by decide +kernel
theorem dX9_truthAt_17 : decode cX9_truthAt 17 = .ok (.iaload, 1) := by decide +kernel
theorem dX9_truthAt_18 : decode cX9_truthAt 18 = .ok (.invokestatic 113, 3) := by decide +kernel
theorem dX9_truthAt_21 : decode cX9_truthAt 21 = .ok (.iconst 1, 1) := by decide +kernel
theorem dX9_truthAt_22 : decode cX9_truthAt 22 = .ok (.if_icmp .le 17, 3) := by decide +kernel
theorem dX9_truthAt_25 : decode cX9_truthAt 25 = .ok (.aload_n 0, 1) := by decide +kernel
theorem dX9_truthAt_26 : decode cX9_truthAt 26 = .ok (.getfield 40, 3) := by decide +kernel
theorem dX9_truthAt_29 : decode cX9_truthAt 29 = .ok (.aload_n 0, 1) := by decide +kernel
theorem dX9_truthAt_30 : decode cX9_truthAt 30 = .ok (.getfield 31, 3) := by decide +kernel
theorem dX9_truthAt_33 : decode cX9_truthAt 33 = .ok (.iload_n 1, 1) := by decide +kernel
theorem dX9_truthAt_34 : decode cX9_truthAt 34 = .ok (.iaload, 1) := by decide +kernel
theorem dX9_truthAt_35 : decode cX9_truthAt 35 = .ok (.iaload, 1) := by decide +kernel
theorem dX9_truthAt_36 : decode cX9_truthAt 36 = .ok (.goto 4, 3) := by decide +kernel
theorem dX9_truthAt_39 : decode cX9_truthAt 39 = .ok (.iconst 0, 1) := by decide +kernel
theorem dX9_truthAt_40 : decode cX9_truthAt 40 = .ok (.istore_n 3, 1) := by decide +kernel
theorem dX9_truthAt_41 : decode cX9_truthAt 41 = .ok (.aload_n 0, 1) := by decide +kernel
theorem dX9_truthAt_42 : decode cX9_truthAt 42 = .ok (.getfield 25, 3) := by decide +kernel
theorem dX9_truthAt_45 : decode cX9_truthAt 45 = .ok (.iload_n 1, 1) := by decide +kernel
theorem dX9_truthAt_46 : decode cX9_truthAt 46 = .ok (.iaload, 1) := by decide +kernel
theorem dX9_truthAt_47 : decode cX9_truthAt 47 = .ok (.tableswitch 104 10 14 #[33, 60, 87, 93, 99], 33) := by decide +kernel
theorem dX9_truthAt_80 : decode cX9_truthAt 80 = .ok (.iload_n 2, 1) := by decide +kernel
theorem dX9_truthAt_81 : decode cX9_truthAt 81 = .ok (.ldc 74, 2) := by decide +kernel
theorem dX9_truthAt_83 : decode cX9_truthAt 83 = .ok (.if_icmp .eq 9, 3) := by decide +kernel
theorem dX9_truthAt_86 : decode cX9_truthAt 86 = .ok (.iload_n 3, 1) := by decide +kernel
theorem dX9_truthAt_87 : decode cX9_truthAt 87 = .ok (.ldc 74, 2) := by decide +kernel
theorem dX9_truthAt_89 : decode cX9_truthAt 89 = .ok (.if_icmp .ne 7, 3) := by decide +kernel
theorem dX9_truthAt_92 : decode cX9_truthAt 92 = .ok (.iconst 2, 1) := by decide +kernel
theorem dX9_truthAt_93 : decode cX9_truthAt 93 = .ok (.goto 13, 3) := by decide +kernel
theorem dX9_truthAt_96 : decode cX9_truthAt 96 = .ok (.iload_n 2, 1) := by decide +kernel
theorem dX9_truthAt_97 : decode cX9_truthAt 97 = .ok (.iload_n 3, 1) := by decide +kernel
theorem dX9_truthAt_98 : decode cX9_truthAt 98 = .ok (.if_icmp .ge 7, 3) := by decide +kernel
theorem dX9_truthAt_101 : decode cX9_truthAt 101 = .ok (.iconst 1, 1) := by decide +kernel
theorem dX9_truthAt_102 : decode cX9_truthAt 102 = .ok (.goto 4, 3) := by decide +kernel
theorem dX9_truthAt_105 : decode cX9_truthAt 105 = .ok (.iconst 0, 1) := by decide +kernel
theorem dX9_truthAt_106 : decode cX9_truthAt 106 = .ok (.ireturn, 1) := by decide +kernel
theorem dX9_truthAt_107 : decode cX9_truthAt 107 = .ok (.iload_n 2, 1) := by decide +kernel
theorem dX9_truthAt_108 : decode cX9_truthAt 108 = .ok (.ldc 74, 2) := by decide +kernel
theorem dX9_truthAt_110 : decode cX9_truthAt 110 = .ok (.if_icmp .eq 9, 3) := by decide +kernel
theorem dX9_truthAt_113 : decode cX9_truthAt 113 = .ok (.iload_n 3, 1) := by decide +kernel
theorem dX9_truthAt_114 : decode cX9_truthAt 114 = .ok (.ldc 74, 2) := by decide +kernel
theorem dX9_truthAt_116 : decode cX9_truthAt 116 = .ok (.if_icmp .ne 7, 3) := by decide +kernel
theorem dX9_truthAt_119 : decode cX9_truthAt 119 = .ok (.iconst 2, 1) := by decide +kernel
theorem dX9_truthAt_120 : decode cX9_truthAt 120 = .ok (.goto 13, 3) := by decide +kernel
theorem dX9_truthAt_123 : decode cX9_truthAt 123 = .ok (.iload_n 2, 1) := by decide +kernel
theorem dX9_truthAt_124 : decode cX9_truthAt 124 = .ok (.iload_n 3, 1) := by decide +kernel
theorem dX9_truthAt_125 : decode cX9_truthAt 125 = .ok (.if_icmp .ne 7, 3) := by decide +kernel
theorem dX9_truthAt_128 : decode cX9_truthAt 128 = .ok (.iconst 1, 1) := by decide +kernel
theorem dX9_truthAt_129 : decode cX9_truthAt 129 = .ok (.goto 4, 3) := by decide +kernel
theorem dX9_truthAt_132 : decode cX9_truthAt 132 = .ok (.iconst 0, 1) := by decide +kernel
theorem dX9_truthAt_133 : decode cX9_truthAt 133 = .ok (.ireturn, 1) := by decide +kernel
theorem dX9_truthAt_134 : decode cX9_truthAt 134 = .ok (.iload_n 2, 1) := by decide +kernel
theorem dX9_truthAt_135 : decode cX9_truthAt 135 = .ok (.iload_n 3, 1) := by decide +kernel
theorem dX9_truthAt_136 : decode cX9_truthAt 136 = .ok (.invokestatic 148, 3) := by decide +kernel
theorem dX9_truthAt_139 : decode cX9_truthAt 139 = .ok (.ireturn, 1) := by decide +kernel
theorem dX9_truthAt_140 : decode cX9_truthAt 140 = .ok (.iload_n 2, 1) := by decide +kernel
theorem dX9_truthAt_141 : decode cX9_truthAt 141 = .ok (.iload_n 3, 1) := by decide +kernel
theorem dX9_truthAt_142 : decode cX9_truthAt 142 = .ok (.invokestatic 151, 3) := by decide +kernel
theorem dX9_truthAt_145 : decode cX9_truthAt 145 = .ok (.ireturn, 1) := by decide +kernel
theorem dX9_truthAt_146 : decode cX9_truthAt 146 = .ok (.iload_n 2, 1) := by decide +kernel
theorem dX9_truthAt_147 : decode cX9_truthAt 147 = .ok (.invokestatic 145, 3) := by decide +kernel
theorem dX9_truthAt_150 : decode cX9_truthAt 150 = .ok (.ireturn, 1) := by decide +kernel
theorem dX9_truthAt_151 : decode cX9_truthAt 151 = .ok (.aload_n 0, 1) := by decide +kernel
theorem dX9_truthAt_152 : decode cX9_truthAt 152 = .ok (.getfield 43, 3) := by decide +kernel
theorem dX9_truthAt_155 : decode cX9_truthAt 155 = .ok (.aload_n 0, 1) := by decide +kernel
theorem dX9_truthAt_156 : decode cX9_truthAt 156 = .ok (.getfield 22, 3) := by decide +kernel
theorem dX9_truthAt_159 : decode cX9_truthAt 159 = .ok (.iload_n 1, 1) := by decide +kernel
theorem dX9_truthAt_160 : decode cX9_truthAt 160 = .ok (.iconst 1, 1) := by decide +kernel
theorem dX9_truthAt_161 : decode cX9_truthAt 161 = .ok (.iadd, 1) := by decide +kernel
theorem dX9_truthAt_162 : decode cX9_truthAt 162 = .ok (.iaload, 1) := by decide +kernel
theorem dX9_truthAt_163 : decode cX9_truthAt 163 = .ok (.bipush 97, 2) := by decide +kernel
theorem dX9_truthAt_165 : decode cX9_truthAt 165 = .ok (.isub, 1) := by decide +kernel
theorem dX9_truthAt_166 : decode cX9_truthAt 166 = .ok (.iaload, 1) := by decide +kernel
theorem dX9_truthAt_167 : decode cX9_truthAt 167 = .ok (.sipush 1000, 3) := by decide +kernel
theorem dX9_truthAt_170 : decode cX9_truthAt 170 = .ok (.if_icmp .ne 7, 3) := by decide +kernel
theorem dX9_truthAt_173 : decode cX9_truthAt 173 = .ok (.iconst 1, 1) := by decide +kernel
theorem dX9_truthAt_174 : decode cX9_truthAt 174 = .ok (.goto 4, 3) := by decide +kernel
theorem dX9_truthAt_177 : decode cX9_truthAt 177 = .ok (.iconst 0, 1) := by decide +kernel
theorem dX9_truthAt_178 : decode cX9_truthAt 178 = .ok (.ireturn, 1) := by decide +kernel
theorem dX9_truthOfRow_0 : decode cX9_truthOfRow 0 = .ok (.iconst 0, 1) := by decide +kernel
theorem dX9_truthOfRow_1 : decode cX9_truthOfRow 1 = .ok (.istore_n 3, 1) := by decide +kernel
theorem dX9_truthOfRow_2 : decode cX9_truthOfRow 2 = .ok (.iload_n 3, 1) := by decide +kernel
theorem dX9_truthOfRow_3 : decode cX9_truthOfRow 3 = .ok (.iconst 4, 1) := by decide +kernel
theorem dX9_truthOfRow_4 : decode cX9_truthOfRow 4 = .ok (.if_icmp .ge 22, 3) := by decide +kernel
theorem dX9_truthOfRow_7 : decode cX9_truthOfRow 7 = .ok (.aload_n 0, 1) := by decide +kernel
theorem dX9_truthOfRow_8 : decode cX9_truthOfRow 8 = .ok (.getfield 43, 3) := by decide +kernel
theorem dX9_truthOfRow_11 : decode cX9_truthOfRow 11 = .ok (.iload_n 3, 1) := by decide +kernel
theorem dX9_truthOfRow_12 : decode cX9_truthOfRow 12 = .ok (.aload_n 0, 1) := by decide +kernel
theorem dX9_truthOfRow_13 : decode cX9_truthOfRow 13 = .ok (.iload_n 1, 1) := by decide +kernel
theorem dX9_truthOfRow_14 : decode cX9_truthOfRow 14 = .ok (.iload_n 2, 1) := by decide +kernel
theorem dX9_truthOfRow_15 : decode cX9_truthOfRow 15 = .ok (.iload_n 3, 1) := by decide +kernel
theorem dX9_truthOfRow_16 : decode cX9_truthOfRow 16 = .ok (.invokevirtual 87, 3) := by decide +kernel
theorem dX9_truthOfRow_19 : decode cX9_truthOfRow 19 = .ok (.iastore, 1) := by decide +kernel
theorem dX9_truthOfRow_20 : decode cX9_truthOfRow 20 = .ok (.iinc 3 1, 3) := by decide +kernel
theorem dX9_truthOfRow_23 : decode cX9_truthOfRow 23 = .ok (.goto (-21), 3) := by decide +kernel
theorem dX9_truthOfRow_26 : decode cX9_truthOfRow 26 = .ok (.aload_n 0, 1) := by decide +kernel
theorem dX9_truthOfRow_27 : decode cX9_truthOfRow 27 = .ok (.invokevirtual 154, 3) := by decide +kernel
theorem dX9_truthOfRow_30 : decode cX9_truthOfRow 30 = .ok (.aload_n 0, 1) := by decide +kernel
theorem dX9_truthOfRow_31 : decode cX9_truthOfRow 31 = .ok (.getfield 40, 3) := by decide +kernel
theorem dX9_truthOfRow_34 : decode cX9_truthOfRow 34 = .ok (.iconst 0, 1) := by decide +kernel
theorem dX9_truthOfRow_35 : decode cX9_truthOfRow 35 = .ok (.iaload, 1) := by decide +kernel
theorem dX9_truthOfRow_36 : decode cX9_truthOfRow 36 = .ok (.ireturn, 1) := by decide +kernel
theorem dX9_truth_0 : decode cX9_truth 0 = .ok (.aload_n 0, 1) := by decide +kernel
theorem dX9_truth_1 : decode cX9_truth 1 = .ok (.iload_n 1, 1) := by decide +kernel
theorem dX9_truth_2 : decode cX9_truth 2 = .ok (.iload_n 2, 1) := by decide +kernel
theorem dX9_truth_3 : decode cX9_truth 3 = .ok (.invokevirtual 83, 3) := by decide +kernel
theorem dX9_truth_6 : decode cX9_truth 6 = .ok (.ifCond .ne 5, 3) := by decide +kernel
theorem dX9_truth_9 : decode cX9_truth 9 = .ok (.iconst (-1), 1) := by decide +kernel
theorem dX9_truth_10 : decode cX9_truth 10 = .ok (.ireturn, 1) := by decide +kernel
theorem dX9_truth_11 : decode cX9_truth 11 = .ok (.aload_n 0, 1) := by decide +kernel
theorem dX9_truth_12 : decode cX9_truth 12 = .ok (.invokevirtual 116, 3) := by decide +kernel
theorem dX9_truth_15 : decode cX9_truth 15 = .ok (.ldc 74, 2) := by decide +kernel
theorem dX9_truth_17 : decode cX9_truth 17 = .ok (.if_icmp .eq 8, 3) := by decide +kernel
theorem dX9_truth_20 : decode cX9_truth 20 = .ok (.bipush (-5), 2) := by decide +kernel
theorem dX9_truth_22 : decode cX9_truth 22 = .ok (.goto 9, 3) := by decide +kernel
theorem dX9_truth_25 : decode cX9_truth 25 = .ok (.aload_n 0, 1) := by decide +kernel
theorem dX9_truth_26 : decode cX9_truth 26 = .ok (.iload_n 1, 1) := by decide +kernel
theorem dX9_truth_27 : decode cX9_truth 27 = .ok (.iload_n 2, 1) := by decide +kernel
theorem dX9_truth_28 : decode cX9_truth 28 = .ok (.invokevirtual 157, 3) := by decide +kernel
theorem dX9_truth_31 : decode cX9_truth 31 = .ok (.ireturn, 1) := by decide +kernel
theorem dX9_layBlock_0 : decode cX9_layBlock 0 = .ok (.aload_n 0, 1) := by decide +kernel
theorem dX9_layBlock_1 : decode cX9_layBlock 1 = .ok (.getfield 102, 3) := by decide +kernel
theorem dX9_layBlock_4 : decode cX9_layBlock 4 = .ok (.iconst 1, 1) := by decide +kernel
theorem dX9_layBlock_5 : decode cX9_layBlock 5 = .ok (.isub, 1) := by decide +kernel
theorem dX9_layBlock_6 : decode cX9_layBlock 6 = .ok (.istore_n 2, 1) := by decide +kernel
theorem dX9_layBlock_7 : decode cX9_layBlock 7 = .ok (.iload_n 2, 1) := by decide +kernel
theorem dX9_layBlock_8 : decode cX9_layBlock 8 = .ok (.ifCond .lt 60, 3) := by decide +kernel
theorem dX9_layBlock_11 : decode cX9_layBlock 11 = .ok (.aload_n 0, 1) := by decide +kernel
theorem dX9_layBlock_12 : decode cX9_layBlock 12 = .ok (.getfield 25, 3) := by decide +kernel
theorem dX9_layBlock_15 : decode cX9_layBlock 15 = .ok (.iload_n 2, 1) := by decide +kernel
theorem dX9_layBlock_16 : decode cX9_layBlock 16 = .ok (.iaload, 1) := by decide +kernel
theorem dX9_layBlock_17 : decode cX9_layBlock 17 = .ok (.ldc 74, 2) := by decide +kernel
theorem dX9_layBlock_19 : decode cX9_layBlock 19 = .ok (.if_icmp .eq 20, 3) := by decide +kernel
theorem dX9_layBlock_22 : decode cX9_layBlock 22 = .ok (.aload_n 0, 1) := by decide +kernel
theorem dX9_layBlock_23 : decode cX9_layBlock 23 = .ok (.iload_n 2, 1) := by decide +kernel
theorem dX9_layBlock_24 : decode cX9_layBlock 24 = .ok (.invokevirtual 126, 3) := by decide +kernel
theorem dX9_layBlock_27 : decode cX9_layBlock 27 = .ok (.ifCond .eq 12, 3) := by decide +kernel
theorem dX9_layBlock_30 : decode cX9_layBlock 30 = .ok (.aload_n 0, 1) := by decide +kernel
theorem dX9_layBlock_31 : decode cX9_layBlock 31 = .ok (.iload_n 1, 1) := by decide +kernel
theorem dX9_layBlock_32 : decode cX9_layBlock 32 = .ok (.iload_n 2, 1) := by decide +kernel
theorem dX9_layBlock_33 : decode cX9_layBlock 33 = .ok (.invokevirtual 160, 3) := by decide +kernel
theorem dX9_layBlock_36 : decode cX9_layBlock 36 = .ok (.goto 26, 3) := by decide +kernel
theorem dX9_layBlock_39 : decode cX9_layBlock 39 = .ok (.aload_n 0, 1) := by decide +kernel
theorem dX9_layBlock_40 : decode cX9_layBlock 40 = .ok (.getfield 25, 3) := by decide +kernel
theorem dX9_layBlock_43 : decode cX9_layBlock 43 = .ok (.iload_n 2, 1) := by decide +kernel
theorem dX9_layBlock_44 : decode cX9_layBlock 44 = .ok (.iaload, 1) := by decide +kernel
theorem dX9_layBlock_45 : decode cX9_layBlock 45 = .ok (.ldc 74, 2) := by decide +kernel
theorem dX9_layBlock_47 : decode cX9_layBlock 47 = .ok (.if_icmp .eq 15, 3) := by decide +kernel
theorem dX9_layBlock_50 : decode cX9_layBlock 50 = .ok (.aload_n 0, 1) := by decide +kernel
theorem dX9_layBlock_51 : decode cX9_layBlock 51 = .ok (.getfield 46, 3) := by decide +kernel
theorem dX9_layBlock_54 : decode cX9_layBlock 54 = .ok (.iload_n 2, 1) := by decide +kernel
theorem dX9_layBlock_55 : decode cX9_layBlock 55 = .ok (.aload_n 0, 1) := by decide +kernel
theorem dX9_layBlock_56 : decode cX9_layBlock 56 = .ok (.iload_n 1, 1) := by decide +kernel
theorem dX9_layBlock_57 : decode cX9_layBlock 57 = .ok (.iload_n 2, 1) := by decide +kernel
theorem dX9_layBlock_58 : decode cX9_layBlock 58 = .ok (.invokevirtual 163, 3) := by decide +kernel
theorem dX9_layBlock_61 : decode cX9_layBlock 61 = .ok (.iastore, 1) := by decide +kernel
theorem dX9_layBlock_62 : decode cX9_layBlock 62 = .ok (.iinc 2 (-1), 3) := by decide +kernel
theorem dX9_layBlock_65 : decode cX9_layBlock 65 = .ok (.goto (-58), 3) := by decide +kernel
theorem dX9_layBlock_68 : decode cX9_layBlock 68 = .ok (.return_, 1) := by decide +kernel
theorem dX9_layRange_0 : decode cX9_layRange 0 = .ok (.aload_n 0, 1) := by decide +kernel
theorem dX9_layRange_1 : decode cX9_layRange 1 = .ok (.getfield 25, 3) := by decide +kernel
theorem dX9_layRange_4 : decode cX9_layRange 4 = .ok (.iload_n 2, 1) := by decide +kernel
theorem dX9_layRange_5 : decode cX9_layRange 5 = .ok (.iaload, 1) := by decide +kernel
theorem dX9_layRange_6 : decode cX9_layRange 6 = .ok (.invokestatic 113, 3) := by decide +kernel
theorem dX9_layRange_9 : decode cX9_layRange 9 = .ok (.istore_n 3, 1) := by decide +kernel
theorem dX9_layRange_10 : decode cX9_layRange 10 = .ok (.iload_n 3, 1) := by decide +kernel
theorem dX9_layRange_11 : decode cX9_layRange 11 = .ok (.ifCond .ne 162, 3) := by decide +kernel
theorem dX9_layRange_14 : decode cX9_layRange 14 = .ok (.aload_n 0, 1) := by decide +kernel
theorem dX9_layRange_15 : decode cX9_layRange 15 = .ok (.getfield 25, 3) := by decide +kernel
theorem dX9_layRange_18 : decode cX9_layRange 18 = .ok (.iload_n 2, 1) := by decide +kernel
theorem dX9_layRange_19 : decode cX9_layRange 19 = .ok (.iaload, 1) := by decide +kernel
theorem dX9_layRange_20 : decode cX9_layRange 20 = .ok (.iconst 1, 1) := by decide +kernel
theorem dX9_layRange_21 : decode cX9_layRange 21 = .ok (.if_icmp .ne 99, 3) := by decide +kernel
theorem dX9_layRange_24 : decode cX9_layRange 24 = .ok (.bipush 12, 2) := by decide +kernel
theorem dX9_layRange_26 : decode cX9_layRange 26 = .ok (.iconst 4, 1) := by decide +kernel
theorem dX9_layRange_27 : decode cX9_layRange 27 = .ok (.iload_n 1, 1) := by decide +kernel
theorem dX9_layRange_28 : decode cX9_layRange 28 = .ok (.imul, 1) := by decide +kernel
theorem dX9_layRange_29 : decode cX9_layRange 29 = .ok (.aload_n 0, 1) := by decide +kernel
theorem dX9_layRange_30 : decode cX9_layRange 30 = .ok (.getfield 22, 3) := by decide +kernel
theorem dX9_layRange_33 : decode cX9_layRange 33 = .ok (.iload_n 2, 1) := by decide +kernel
theorem dX9_layRange_34 : decode cX9_layRange 34 = .ok (.iaload, 1) := by decide +kernel
theorem dX9_layRange_35 : decode cX9_layRange 35 = .ok (.iadd, 1) := by decide +kernel
theorem dX9_layRange_36 : decode cX9_layRange 36 = .ok (.bipush 97, 2) := by decide +kernel
theorem dX9_layRange_38 : decode cX9_layRange 38 = .ok (.isub, 1) := by decide +kernel
theorem dX9_layRange_39 : decode cX9_layRange 39 = .ok (.imul, 1) := by decide +kernel
theorem dX9_layRange_40 : decode cX9_layRange 40 = .ok (.istore 4, 2) := by decide +kernel
theorem dX9_layRange_42 : decode cX9_layRange 42 = .ok (.aload_n 0, 1) := by decide +kernel
theorem dX9_layRange_43 : decode cX9_layRange 43 = .ok (.getfield 46, 3) := by decide +kernel
theorem dX9_layRange_46 : decode cX9_layRange 46 = .ok (.iload_n 2, 1) := by decide +kernel
theorem dX9_layRange_47 : decode cX9_layRange 47 = .ok (.aload_n 0, 1) := by decide +kernel
theorem dX9_layRange_48 : decode cX9_layRange 48 = .ok (.getfield 16, 3) := by decide +kernel
theorem dX9_layRange_51 : decode cX9_layRange 51 = .ok (.iload 4, 2) := by decide +kernel
theorem dX9_layRange_53 : decode cX9_layRange 53 = .ok (.iconst 2, 1) := by decide +kernel
theorem dX9_layRange_54 : decode cX9_layRange 54 = .ok (.iadd, 1) := by decide +kernel
theorem dX9_layRange_55 : decode cX9_layRange 55 = .ok (.iaload, 1) := by decide +kernel
theorem dX9_layRange_56 : decode cX9_layRange 56 = .ok (.aload_n 0, 1) := by decide +kernel
theorem dX9_layRange_57 : decode cX9_layRange 57 = .ok (.getfield 13, 3) := by decide +kernel
theorem dX9_layRange_60 : decode cX9_layRange 60 = .ok (.iload_n 1, 1) := by decide +kernel
theorem dX9_layRange_61 : decode cX9_layRange 61 = .ok (.iaload, 1) := by decide +kernel
theorem dX9_layRange_62 : decode cX9_layRange 62 = .ok (.if_icmp .ge 7, 3) := by decide +kernel
theorem dX9_layRange_65 : decode cX9_layRange 65 = .ok (.iconst 1, 1) := by decide +kernel
theorem dX9_layRange_66 : decode cX9_layRange 66 = .ok (.goto 4, 3) := by decide +kernel
theorem dX9_layRange_69 : decode cX9_layRange 69 = .ok (.iconst 0, 1) := by decide +kernel
theorem dX9_layRange_70 : decode cX9_layRange 70 = .ok (.aload_n 0, 1) := by decide +kernel
theorem dX9_layRange_71 : decode cX9_layRange 71 = .ok (.getfield 16, 3) := by decide +kernel
theorem dX9_layRange_74 : decode cX9_layRange 74 = .ok (.iload 4, 2) := by decide +kernel
theorem dX9_layRange_76 : decode cX9_layRange 76 = .ok (.iconst 2, 1) := by decide +kernel
theorem dX9_layRange_77 : decode cX9_layRange 77 = .ok (.iadd, 1) := by decide +kernel
theorem dX9_layRange_78 : decode cX9_layRange 78 = .ok (.iaload, 1) := by decide +kernel
theorem dX9_layRange_79 : decode cX9_layRange 79 = .ok (.ifCond .le 7, 3) := by decide +kernel
theorem dX9_layRange_82 : decode cX9_layRange 82 = .ok (.iconst 2, 1) := by decide +kernel
theorem dX9_layRange_83 : decode cX9_layRange 83 = .ok (.goto 4, 3) := by decide +kernel
theorem dX9_layRange_86 : decode cX9_layRange 86 = .ok (.iconst 0, 1) := by decide +kernel
theorem dX9_layRange_87 : decode cX9_layRange 87 = .ok (.iadd, 1) := by decide +kernel
theorem dX9_layRange_88 : decode cX9_layRange 88 = .ok (.iastore, 1) := by decide +kernel
theorem dX9_layRange_89 : decode cX9_layRange 89 = .ok (.aload_n 0, 1) := by decide +kernel
theorem dX9_layRange_90 : decode cX9_layRange 90 = .ok (.getfield 49, 3) := by decide +kernel
theorem dX9_layRange_93 : decode cX9_layRange 93 = .ok (.iload_n 2, 1) := by decide +kernel
theorem dX9_layRange_94 : decode cX9_layRange 94 = .ok (.aload_n 0, 1) := by decide +kernel
theorem dX9_layRange_95 : decode cX9_layRange 95 = .ok (.getfield 16, 3) := by decide +kernel
theorem dX9_layRange_98 : decode cX9_layRange 98 = .ok (.iload 4, 2) := by decide +kernel
theorem dX9_layRange_100 : decode cX9_layRange 100 = .ok (.iaload, 1) := by decide +kernel
theorem dX9_layRange_101 : decode cX9_layRange 101 = .ok (.iastore, 1) := by decide +kernel
theorem dX9_layRange_102 : decode cX9_layRange 102 = .ok (.aload_n 0, 1) := by decide +kernel
theorem dX9_layRange_103 : decode cX9_layRange 103 = .ok (.getfield 52, 3) := by decide +kernel
theorem dX9_layRange_106 : decode cX9_layRange 106 = .ok (.iload_n 2, 1) := by decide +kernel
theorem dX9_layRange_107 : decode cX9_layRange 107 = .ok (.aload_n 0, 1) := by decide +kernel
theorem dX9_layRange_108 : decode cX9_layRange 108 = .ok (.getfield 16, 3) := by decide +kernel
theorem dX9_layRange_111 : decode cX9_layRange 111 = .ok (.iload 4, 2) := by decide +kernel
theorem dX9_layRange_113 : decode cX9_layRange 113 = .ok (.iconst 1, 1) := by decide +kernel
theorem dX9_layRange_114 : decode cX9_layRange 114 = .ok (.iadd, 1) := by decide +kernel
theorem dX9_layRange_115 : decode cX9_layRange 115 = .ok (.iaload, 1) := by decide +kernel
theorem dX9_layRange_116 : decode cX9_layRange 116 = .ok (.iastore, 1) := by decide +kernel
theorem dX9_layRange_117 : decode cX9_layRange 117 = .ok (.goto 55, 3) := by decide +kernel
theorem dX9_layRange_120 : decode cX9_layRange 120 = .ok (.aload_n 0, 1) := by decide +kernel
theorem dX9_layRange_121 : decode cX9_layRange 121 = .ok (.getfield 46, 3) := by decide +kernel
theorem dX9_layRange_124 : decode cX9_layRange 124 = .ok (.iload_n 2, 1) := by decide +kernel
theorem dX9_layRange_125 : decode cX9_layRange 125 = .ok (.iconst 1, 1) := by decide +kernel
theorem dX9_layRange_126 : decode cX9_layRange 126 = .ok (.iastore, 1) := by decide +kernel
theorem dX9_layRange_127 : decode cX9_layRange 127 = .ok (.aload_n 0, 1) := by decide +kernel
theorem dX9_layRange_128 : decode cX9_layRange 128 = .ok (.getfield 49, 3) := by decide +kernel
theorem dX9_layRange_131 : decode cX9_layRange 131 = .ok (.iload_n 2, 1) := by decide +kernel
theorem dX9_layRange_132 : decode cX9_layRange 132 = .ok (.aload_n 0, 1) := by decide +kernel
theorem dX9_layRange_133 : decode cX9_layRange 133 = .ok (.getfield 25, 3) := by decide +kernel
theorem dX9_layRange_136 : decode cX9_layRange 136 = .ok (.iload_n 2, 1) := by decide +kernel
theorem dX9_layRange_137 : decode cX9_layRange 137 = .ok (.iaload, 1) := by decide +kernel
theorem dX9_layRange_138 : decode cX9_layRange 138 = .ok (.iconst 3, 1) := by decide +kernel
theorem dX9_layRange_139 : decode cX9_layRange 139 = .ok (.if_icmp .ne 11, 3) := by decide +kernel
theorem dX9_layRange_142 : decode cX9_layRange 142 = .ok (.aload_n 0, 1) := by decide +kernel
theorem dX9_layRange_143 : decode cX9_layRange 143 = .ok (.iload_n 2, 1) := by decide +kernel
theorem dX9_layRange_144 : decode cX9_layRange 144 = .ok (.invokevirtual 135, 3) := by decide +kernel
theorem dX9_layRange_147 : decode cX9_layRange 147 = .ok (.goto 12, 3) := by decide +kernel
theorem dX9_layRange_150 : decode cX9_layRange 150 = .ok (.aload_n 0, 1) := by decide +kernel
theorem dX9_layRange_151 : decode cX9_layRange 151 = .ok (.getfield 22, 3) := by decide +kernel
theorem dX9_layRange_154 : decode cX9_layRange 154 = .ok (.iload_n 2, 1) := by decide +kernel
theorem dX9_layRange_155 : decode cX9_layRange 155 = .ok (.iaload, 1) := by decide +kernel
theorem dX9_layRange_156 : decode cX9_layRange 156 = .ok (.bipush 48, 2) := by decide +kernel
theorem dX9_layRange_158 : decode cX9_layRange 158 = .ok (.isub, 1) := by decide +kernel
theorem dX9_layRange_159 : decode cX9_layRange 159 = .ok (.iastore, 1) := by decide +kernel
theorem dX9_layRange_160 : decode cX9_layRange 160 = .ok (.aload_n 0, 1) := by decide +kernel
theorem dX9_layRange_161 : decode cX9_layRange 161 = .ok (.getfield 52, 3) := by decide +kernel
theorem dX9_layRange_164 : decode cX9_layRange 164 = .ok (.iload_n 2, 1) := by decide +kernel
theorem dX9_layRange_165 : decode cX9_layRange 165 = .ok (.aload_n 0, 1) := by decide +kernel
theorem dX9_layRange_166 : decode cX9_layRange 166 = .ok (.getfield 49, 3) := by decide +kernel
theorem dX9_layRange_169 : decode cX9_layRange 169 = .ok (.iload_n 2, 1) := by decide +kernel
theorem dX9_layRange_170 : decode cX9_layRange 170 = .ok (.iaload, 1) := by decide +kernel
theorem dX9_layRange_171 : decode cX9_layRange 171 = .ok (.iastore, 1) := by decide +kernel
theorem dX9_layRange_172 : decode cX9_layRange 172 = .ok (.return_, 1) := by decide +kernel
theorem dX9_layRange_173 : decode cX9_layRange 173 = .ok (.aload_n 0, 1) := by decide +kernel
theorem dX9_layRange_174 : decode cX9_layRange 174 = .ok (.getfield 28, 3) := by decide +kernel
theorem dX9_layRange_177 : decode cX9_layRange 177 = .ok (.iload_n 2, 1) := by decide +kernel
theorem dX9_layRange_178 : decode cX9_layRange 178 = .ok (.iaload, 1) := by decide +kernel
theorem dX9_layRange_179 : decode cX9_layRange 179 = .ok (.istore 4, 2) := by decide +kernel
theorem dX9_layRange_181 : decode cX9_layRange 181 = .ok (.iload_n 3, 1) := by decide +kernel
theorem dX9_layRange_182 : decode cX9_layRange 182 = .ok (.iconst 1, 1) := by decide +kernel
theorem dX9_layRange_183 : decode cX9_layRange 183 = .ok (.if_icmp .le 12, 3) := by decide +kernel
theorem dX9_layRange_186 : decode cX9_layRange 186 = .ok (.aload_n 0, 1) := by decide +kernel
theorem dX9_layRange_187 : decode cX9_layRange 187 = .ok (.getfield 31, 3) := by decide +kernel
theorem dX9_layRange_190 : decode cX9_layRange 190 = .ok (.iload_n 2, 1) := by decide +kernel
theorem dX9_layRange_191 : decode cX9_layRange 191 = .ok (.iaload, 1) := by decide +kernel
theorem dX9_layRange_192 : decode cX9_layRange 192 = .ok (.goto 5, 3) := by decide +kernel
theorem dX9_layRange_195 : decode cX9_layRange 195 = .ok (.iload 4, 2) := by decide +kernel
theorem dX9_layRange_197 : decode cX9_layRange 197 = .ok (.istore 5, 2) := by decide +kernel
theorem dX9_layRange_199 : decode cX9_layRange 199 = .ok (.aload_n 0, 1) := by decide +kernel
theorem dX9_layRange_200 : decode cX9_layRange 200 = .ok (.getfield 46, 3) := by decide +kernel
theorem dX9_layRange_203 : decode cX9_layRange 203 = .ok (.iload_n 2, 1) := by decide +kernel
theorem dX9_layRange_204 : decode cX9_layRange 204 = .ok (.aload_n 0, 1) := by decide +kernel
theorem dX9_layRange_205 : decode cX9_layRange 205 = .ok (.getfield 46, 3) := by decide +kernel
theorem dX9_layRange_208 : decode cX9_layRange 208 = .ok (.iload 4, 2) := by decide +kernel
theorem dX9_layRange_210 : decode cX9_layRange 210 = .ok (.iaload, 1) := by decide +kernel
theorem dX9_layRange_211 : decode cX9_layRange 211 = .ok (.aload_n 0, 1) := by decide +kernel
theorem dX9_layRange_212 : decode cX9_layRange 212 = .ok (.getfield 46, 3) := by decide +kernel
theorem dX9_layRange_215 : decode cX9_layRange 215 = .ok (.iload 5, 2) := by decide +kernel
theorem dX9_layRange_217 : decode cX9_layRange 217 = .ok (.iaload, 1) := by decide +kernel
theorem dX9_layRange_218 : decode cX9_layRange 218 = .ok (.iand, 1) := by decide +kernel
theorem dX9_layRange_219 : decode cX9_layRange 219 = .ok (.iconst 1, 1) := by decide +kernel
theorem dX9_layRange_220 : decode cX9_layRange 220 = .ok (.iand, 1) := by decide +kernel
theorem dX9_layRange_221 : decode cX9_layRange 221 = .ok (.aload_n 0, 1) := by decide +kernel
theorem dX9_layRange_222 : decode cX9_layRange 222 = .ok (.getfield 46, 3) := by decide +kernel
theorem dX9_layRange_225 : decode cX9_layRange 225 = .ok (.iload 4, 2) := by decide +kernel
theorem dX9_layRange_227 : decode cX9_layRange 227 = .ok (.iaload, 1) := by decide +kernel
theorem dX9_layRange_228 : decode cX9_layRange 228 = .ok (.aload_n 0, 1) := by decide +kernel
theorem dX9_layRange_229 : decode cX9_layRange 229 = .ok (.getfield 46, 3) := by decide +kernel
theorem dX9_layRange_232 : decode cX9_layRange 232 = .ok (.iload 5, 2) := by decide +kernel
theorem dX9_layRange_234 : decode cX9_layRange 234 = .ok (.iaload, 1) := by decide +kernel
theorem dX9_layRange_235 : decode cX9_layRange 235 = .ok (.ior, 1) := by decide +kernel
theorem dX9_layRange_236 : decode cX9_layRange 236 = .ok (.iconst 2, 1) := by decide +kernel
theorem dX9_layRange_237 : decode cX9_layRange 237 = .ok (.iand, 1) := by decide +kernel
theorem dX9_layRange_238 : decode cX9_layRange 238 = .ok (.iadd, 1) := by decide +kernel
theorem dX9_layRange_239 : decode cX9_layRange 239 = .ok (.iastore, 1) := by decide +kernel
theorem dX9_layRange_240 : decode cX9_layRange 240 = .ok (.aload_n 0, 1) := by decide +kernel
theorem dX9_layRange_241 : decode cX9_layRange 241 = .ok (.getfield 46, 3) := by decide +kernel
theorem dX9_layRange_244 : decode cX9_layRange 244 = .ok (.iload_n 2, 1) := by decide +kernel
theorem dX9_layRange_245 : decode cX9_layRange 245 = .ok (.iaload, 1) := by decide +kernel
theorem dX9_layRange_246 : decode cX9_layRange 246 = .ok (.iconst 1, 1) := by decide +kernel
theorem dX9_layRange_247 : decode cX9_layRange 247 = .ok (.iand, 1) := by decide +kernel
theorem dX9_layRange_248 : decode cX9_layRange 248 = .ok (.ifCond .ne 4, 3) := by decide +kernel
theorem dX9_layRange_251 : decode cX9_layRange 251 = .ok (.return_, 1) := by decide +kernel
theorem dX9_layRange_252 : decode cX9_layRange 252 = .ok (.aload_n 0, 1) := by decide +kernel
theorem dX9_layRange_253 : decode cX9_layRange 253 = .ok (.getfield 49, 3) := by decide +kernel
theorem dX9_layRange_256 : decode cX9_layRange 256 = .ok (.iload 4, 2) := by decide +kernel
theorem dX9_layRange_258 : decode cX9_layRange 258 = .ok (.iaload, 1) := by decide +kernel
theorem dX9_layRange_259 : decode cX9_layRange 259 = .ok (.istore 6, 2) := by decide +kernel
theorem dX9_layRange_261 : decode cX9_layRange 261 = .ok (.aload_n 0, 1) := by decide +kernel
theorem dX9_layRange_262 : decode cX9_layRange 262 = .ok (.getfield 52, 3) := by decide +kernel
theorem dX9_layRange_265 : decode cX9_layRange 265 = .ok (.iload 4, 2) := by decide +kernel
theorem dX9_layRange_267 : decode cX9_layRange 267 = .ok (.iaload, 1) := by decide +kernel
theorem dX9_layRange_268 : decode cX9_layRange 268 = .ok (.istore 7, 2) := by decide +kernel
theorem dX9_layRange_270 : decode cX9_layRange 270 = .ok (.aload_n 0, 1) := by decide +kernel
theorem dX9_layRange_271 : decode cX9_layRange 271 = .ok (.getfield 49, 3) := by decide +kernel
theorem dX9_layRange_274 : decode cX9_layRange 274 = .ok (.iload 5, 2) := by decide +kernel
theorem dX9_layRange_276 : decode cX9_layRange 276 = .ok (.iaload, 1) := by decide +kernel
theorem dX9_layRange_277 : decode cX9_layRange 277 = .ok (.i2l, 1) := by decide +kernel
theorem dX9_layRange_278 : decode cX9_layRange 278 = .ok (.lstore 8, 2) := by decide +kernel
theorem dX9_layRange_280 : decode cX9_layRange 280 = .ok (.aload_n 0, 1) := by decide +kernel
theorem dX9_layRange_281 : decode cX9_layRange 281 = .ok (.getfield 52, 3) := by decide +kernel
theorem dX9_layRange_284 : decode cX9_layRange 284 = .ok (.iload 5, 2) := by decide +kernel
theorem dX9_layRange_286 : decode cX9_layRange 286 = .ok (.iaload, 1) := by decide +kernel
theorem dX9_layRange_287 : decode cX9_layRange 287 = .ok (.i2l, 1) := by decide +kernel
theorem dX9_layRange_288 : decode cX9_layRange 288 = .ok (.lstore 10, 2) := by decide +kernel
theorem dX9_layRange_290 : decode cX9_layRange 290 = .ok (.aload_n 0, 1) := by decide +kernel
theorem dX9_layRange_291 : decode cX9_layRange 291 = .ok (.getfield 25, 3) := by decide +kernel
theorem dX9_layRange_294 : decode cX9_layRange 294 = .ok (.iload_n 2, 1) := by decide +kernel
theorem dX9_layRange_295 : decode cX9_layRange 295 = .ok (.iaload, 1) := by decide +kernel
theorem dX9_layRange_296 : decode cX9_layRange 296 = .ok (.tableswitch 409 4 8 #[36, 57, 90, 123, 274], 36) := by decide +kernel
theorem dX9_layRange_332 : decode cX9_layRange 332 = .ok (.aload_n 0, 1) := by decide +kernel
theorem dX9_layRange_333 : decode cX9_layRange 333 = .ok (.getfield 49, 3) := by decide +kernel
theorem dX9_layRange_336 : decode cX9_layRange 336 = .ok (.iload_n 2, 1) := by decide +kernel
theorem dX9_layRange_337 : decode cX9_layRange 337 = .ok (.iload 7, 2) := by decide +kernel
theorem dX9_layRange_339 : decode cX9_layRange 339 = .ok (.ineg, 1) := by decide +kernel
theorem dX9_layRange_340 : decode cX9_layRange 340 = .ok (.iastore, 1) := by decide +kernel
theorem dX9_layRange_341 : decode cX9_layRange 341 = .ok (.aload_n 0, 1) := by decide +kernel
theorem dX9_layRange_342 : decode cX9_layRange 342 = .ok (.getfield 52, 3) := by decide +kernel
theorem dX9_layRange_345 : decode cX9_layRange 345 = .ok (.iload_n 2, 1) := by decide +kernel
theorem dX9_layRange_346 : decode cX9_layRange 346 = .ok (.iload 6, 2) := by decide +kernel
theorem dX9_layRange_348 : decode cX9_layRange 348 = .ok (.ineg, 1) := by decide +kernel
theorem dX9_layRange_349 : decode cX9_layRange 349 = .ok (.iastore, 1) := by decide +kernel
theorem dX9_layRange_350 : decode cX9_layRange 350 = .ok (.goto 428, 3) := by decide +kernel
theorem dX9_layRange_353 : decode cX9_layRange 353 = .ok (.aload_n 0, 1) := by decide +kernel
theorem dX9_layRange_354 : decode cX9_layRange 354 = .ok (.getfield 49, 3) := by decide +kernel
theorem dX9_layRange_357 : decode cX9_layRange 357 = .ok (.iload_n 2, 1) := by decide +kernel
theorem dX9_layRange_358 : decode cX9_layRange 358 = .ok (.iload 6, 2) := by decide +kernel
theorem dX9_layRange_360 : decode cX9_layRange 360 = .ok (.i2l, 1) := by decide +kernel
theorem dX9_layRange_361 : decode cX9_layRange 361 = .ok (.lload 8, 2) := by decide +kernel
theorem dX9_layRange_363 : decode cX9_layRange 363 = .ok (.ladd, 1) := by decide +kernel
theorem dX9_layRange_364 : decode cX9_layRange 364 = .ok (.invokestatic 138, 3) := by decide +kernel
theorem dX9_layRange_367 : decode cX9_layRange 367 = .ok (.iastore, 1) := by decide +kernel
theorem dX9_layRange_368 : decode cX9_layRange 368 = .ok (.aload_n 0, 1) := by decide +kernel
theorem dX9_layRange_369 : decode cX9_layRange 369 = .ok (.getfield 52, 3) := by decide +kernel
theorem dX9_layRange_372 : decode cX9_layRange 372 = .ok (.iload_n 2, 1) := by decide +kernel
theorem dX9_layRange_373 : decode cX9_layRange 373 = .ok (.iload 7, 2) := by decide +kernel
theorem dX9_layRange_375 : decode cX9_layRange 375 = .ok (.i2l, 1) := by decide +kernel
theorem dX9_layRange_376 : decode cX9_layRange 376 = .ok (.lload 10, 2) := by decide +kernel
theorem dX9_layRange_378 : decode cX9_layRange 378 = .ok (.ladd, 1) := by decide +kernel
theorem dX9_layRange_379 : decode cX9_layRange 379 = .ok (.invokestatic 138, 3) := by decide +kernel
theorem dX9_layRange_382 : decode cX9_layRange 382 = .ok (.iastore, 1) := by decide +kernel
theorem dX9_layRange_383 : decode cX9_layRange 383 = .ok (.goto 395, 3) := by decide +kernel
theorem dX9_layRange_386 : decode cX9_layRange 386 = .ok (.aload_n 0, 1) := by decide +kernel
theorem dX9_layRange_387 : decode cX9_layRange 387 = .ok (.getfield 49, 3) := by decide +kernel
theorem dX9_layRange_390 : decode cX9_layRange 390 = .ok (.iload_n 2, 1) := by decide +kernel
theorem dX9_layRange_391 : decode cX9_layRange 391 = .ok (.iload 6, 2) := by decide +kernel
theorem dX9_layRange_393 : decode cX9_layRange 393 = .ok (.i2l, 1) := by decide +kernel
theorem dX9_layRange_394 : decode cX9_layRange 394 = .ok (.lload 10, 2) := by decide +kernel
theorem dX9_layRange_396 : decode cX9_layRange 396 = .ok (.lsub, 1) := by decide +kernel
theorem dX9_layRange_397 : decode cX9_layRange 397 = .ok (.invokestatic 138, 3) := by decide +kernel
theorem dX9_layRange_400 : decode cX9_layRange 400 = .ok (.iastore, 1) := by decide +kernel
theorem dX9_layRange_401 : decode cX9_layRange 401 = .ok (.aload_n 0, 1) := by decide +kernel
theorem dX9_layRange_402 : decode cX9_layRange 402 = .ok (.getfield 52, 3) := by decide +kernel
theorem dX9_layRange_405 : decode cX9_layRange 405 = .ok (.iload_n 2, 1) := by decide +kernel
theorem dX9_layRange_406 : decode cX9_layRange 406 = .ok (.iload 7, 2) := by decide +kernel
theorem dX9_layRange_408 : decode cX9_layRange 408 = .ok (.i2l, 1) := by decide +kernel
theorem dX9_layRange_409 : decode cX9_layRange 409 = .ok (.lload 8, 2) := by decide +kernel
theorem dX9_layRange_411 : decode cX9_layRange 411 = .ok (.lsub, 1) := by decide +kernel
theorem dX9_layRange_412 : decode cX9_layRange 412 = .ok (.invokestatic 138, 3) := by decide +kernel
theorem dX9_layRange_415 : decode cX9_layRange 415 = .ok (.iastore, 1) := by decide +kernel
theorem dX9_layRange_416 : decode cX9_layRange 416 = .ok (.goto 362, 3) := by decide +kernel
theorem dX9_layRange_419 : decode cX9_layRange 419 = .ok (.iload 6, 2) := by decide +kernel
theorem dX9_layRange_421 : decode cX9_layRange 421 = .ok (.i2l, 1) := by decide +kernel
theorem dX9_layRange_422 : decode cX9_layRange 422 = .ok (.lload 8, 2) := by decide +kernel
theorem dX9_layRange_424 : decode cX9_layRange 424 = .ok (.lmul, 1) := by decide +kernel
theorem dX9_layRange_425 : decode cX9_layRange 425 = .ok (.invokestatic 138, 3) := by decide +kernel
theorem dX9_layRange_428 : decode cX9_layRange 428 = .ok (.istore 12, 2) := by decide +kernel
theorem dX9_layRange_430 : decode cX9_layRange 430 = .ok (.iload 6, 2) := by decide +kernel
theorem dX9_layRange_432 : decode cX9_layRange 432 = .ok (.i2l, 1) := by decide +kernel
theorem dX9_layRange_433 : decode cX9_layRange 433 = .ok (.lload 10, 2) := by decide +kernel
theorem dX9_layRange_435 : decode cX9_layRange 435 = .ok (.lmul, 1) := by decide +kernel
theorem dX9_layRange_436 : decode cX9_layRange 436 = .ok (.invokestatic 138, 3) := by decide +kernel
theorem dX9_layRange_439 : decode cX9_layRange 439 = .ok (.istore 13, 2) := by decide +kernel
theorem dX9_layRange_441 : decode cX9_layRange 441 = .ok (.iload 7, 2) := by decide +kernel
theorem dX9_layRange_443 : decode cX9_layRange 443 = .ok (.i2l, 1) := by decide +kernel
theorem dX9_layRange_444 : decode cX9_layRange 444 = .ok (.lload 8, 2) := by decide +kernel
theorem dX9_layRange_446 : decode cX9_layRange 446 = .ok (.lmul, 1) := by decide +kernel
theorem dX9_layRange_447 : decode cX9_layRange 447 = .ok (.invokestatic 138, 3) := by decide +kernel
theorem dX9_layRange_450 : decode cX9_layRange 450 = .ok (.istore 14, 2) := by decide +kernel
theorem dX9_layRange_452 : decode cX9_layRange 452 = .ok (.iload 7, 2) := by decide +kernel
theorem dX9_layRange_454 : decode cX9_layRange 454 = .ok (.i2l, 1) := by decide +kernel
theorem dX9_layRange_455 : decode cX9_layRange 455 = .ok (.lload 10, 2) := by decide +kernel
theorem dX9_layRange_457 : decode cX9_layRange 457 = .ok (.lmul, 1) := by decide +kernel
theorem dX9_layRange_458 : decode cX9_layRange 458 = .ok (.invokestatic 138, 3) := by decide +kernel
theorem dX9_layRange_461 : decode cX9_layRange 461 = .ok (.istore 15, 2) := by decide +kernel
theorem dX9_layRange_463 : decode cX9_layRange 463 = .ok (.iload 12, 2) := by decide +kernel
theorem dX9_layRange_465 : decode cX9_layRange 465 = .ok (.iload 13, 2) := by decide +kernel
theorem dX9_layRange_467 : decode cX9_layRange 467 = .ok (.if_icmp .ge 8, 3) := by decide +kernel
theorem dX9_layRange_470 : decode cX9_layRange 470 = .ok (.iload 12, 2) := by decide +kernel
theorem dX9_layRange_472 : decode cX9_layRange 472 = .ok (.goto 5, 3) := by decide +kernel
theorem dX9_layRange_475 : decode cX9_layRange 475 = .ok (.iload 13, 2) := by decide +kernel
theorem dX9_layRange_477 : decode cX9_layRange 477 = .ok (.istore 16, 2) := by decide +kernel
theorem dX9_layRange_479 : decode cX9_layRange 479 = .ok (.iload 14, 2) := by decide +kernel
theorem dX9_layRange_481 : decode cX9_layRange 481 = .ok (.iload 15, 2) := by decide +kernel
theorem dX9_layRange_483 : decode cX9_layRange 483 = .ok (.if_icmp .ge 8, 3) := by decide +kernel
theorem dX9_layRange_486 : decode cX9_layRange 486 = .ok (.iload 14, 2) := by decide +kernel
theorem dX9_layRange_488 : decode cX9_layRange 488 = .ok (.goto 5, 3) := by decide +kernel
theorem dX9_layRange_491 : decode cX9_layRange 491 = .ok (.iload 15, 2) := by decide +kernel
theorem dX9_layRange_493 : decode cX9_layRange 493 = .ok (.istore 17, 2) := by decide +kernel
theorem dX9_layRange_495 : decode cX9_layRange 495 = .ok (.iload 12, 2) := by decide +kernel
theorem dX9_layRange_497 : decode cX9_layRange 497 = .ok (.iload 13, 2) := by decide +kernel
theorem dX9_layRange_499 : decode cX9_layRange 499 = .ok (.if_icmp .le 8, 3) := by decide +kernel
theorem dX9_layRange_502 : decode cX9_layRange 502 = .ok (.iload 12, 2) := by decide +kernel
theorem dX9_layRange_504 : decode cX9_layRange 504 = .ok (.goto 5, 3) := by decide +kernel
theorem dX9_layRange_507 : decode cX9_layRange 507 = .ok (.iload 13, 2) := by decide +kernel
theorem dX9_layRange_509 : decode cX9_layRange 509 = .ok (.istore 18, 2) := by decide +kernel
theorem dX9_layRange_511 : decode cX9_layRange 511 = .ok (.iload 14, 2) := by decide +kernel
theorem dX9_layRange_513 : decode cX9_layRange 513 = .ok (.iload 15, 2) := by decide +kernel
theorem dX9_layRange_515 : decode cX9_layRange 515 = .ok (.if_icmp .le 8, 3) := by decide +kernel
theorem dX9_layRange_518 : decode cX9_layRange 518 = .ok (.iload 14, 2) := by decide +kernel
theorem dX9_layRange_520 : decode cX9_layRange 520 = .ok (.goto 5, 3) := by decide +kernel
theorem dX9_layRange_523 : decode cX9_layRange 523 = .ok (.iload 15, 2) := by decide +kernel
theorem dX9_layRange_525 : decode cX9_layRange 525 = .ok (.istore 19, 2) := by decide +kernel
theorem dX9_layRange_527 : decode cX9_layRange 527 = .ok (.aload_n 0, 1) := by decide +kernel
theorem dX9_layRange_528 : decode cX9_layRange 528 = .ok (.getfield 49, 3) := by decide +kernel
theorem dX9_layRange_531 : decode cX9_layRange 531 = .ok (.iload_n 2, 1) := by decide +kernel
theorem dX9_layRange_532 : decode cX9_layRange 532 = .ok (.iload 16, 2) := by decide +kernel
theorem dX9_layRange_534 : decode cX9_layRange 534 = .ok (.iload 17, 2) := by decide +kernel
theorem dX9_layRange_536 : decode cX9_layRange 536 = .ok (.if_icmp .ge 8, 3) := by decide +kernel
theorem dX9_layRange_539 : decode cX9_layRange 539 = .ok (.iload 16, 2) := by decide +kernel
theorem dX9_layRange_541 : decode cX9_layRange 541 = .ok (.goto 5, 3) := by decide +kernel
theorem dX9_layRange_544 : decode cX9_layRange 544 = .ok (.iload 17, 2) := by decide +kernel
theorem dX9_layRange_546 : decode cX9_layRange 546 = .ok (.iastore, 1) := by decide +kernel
theorem dX9_layRange_547 : decode cX9_layRange 547 = .ok (.aload_n 0, 1) := by decide +kernel
theorem dX9_layRange_548 : decode cX9_layRange 548 = .ok (.getfield 52, 3) := by decide +kernel
theorem dX9_layRange_551 : decode cX9_layRange 551 = .ok (.iload_n 2, 1) := by decide +kernel
theorem dX9_layRange_552 : decode cX9_layRange 552 = .ok (.iload 18, 2) := by decide +kernel
theorem dX9_layRange_554 : decode cX9_layRange 554 = .ok (.iload 19, 2) := by decide +kernel
theorem dX9_layRange_556 : decode cX9_layRange 556 = .ok (.if_icmp .le 8, 3) := by decide +kernel
theorem dX9_layRange_559 : decode cX9_layRange 559 = .ok (.iload 18, 2) := by decide +kernel
theorem dX9_layRange_561 : decode cX9_layRange 561 = .ok (.goto 5, 3) := by decide +kernel
theorem dX9_layRange_564 : decode cX9_layRange 564 = .ok (.iload 19, 2) := by decide +kernel
theorem dX9_layRange_566 : decode cX9_layRange 566 = .ok (.iastore, 1) := by decide +kernel
theorem dX9_layRange_567 : decode cX9_layRange 567 = .ok (.goto 211, 3) := by decide +kernel
theorem dX9_layRange_570 : decode cX9_layRange 570 = .ok (.aload_n 0, 1) := by decide +kernel
theorem dX9_layRange_571 : decode cX9_layRange 571 = .ok (.getfield 22, 3) := by decide +kernel
theorem dX9_layRange_574 : decode cX9_layRange 574 = .ok (.aload_n 0, 1) := by decide +kernel
theorem dX9_layRange_575 : decode cX9_layRange 575 = .ok (.getfield 34, 3) := by decide +kernel
theorem dX9_layRange_578 : decode cX9_layRange 578 = .ok (.iload_n 2, 1) := by decide +kernel
theorem dX9_layRange_579 : decode cX9_layRange 579 = .ok (.iaload, 1) := by decide +kernel
theorem dX9_layRange_580 : decode cX9_layRange 580 = .ok (.iconst 1, 1) := by decide +kernel
theorem dX9_layRange_581 : decode cX9_layRange 581 = .ok (.isub, 1) := by decide +kernel
theorem dX9_layRange_582 : decode cX9_layRange 582 = .ok (.iaload, 1) := by decide +kernel
theorem dX9_layRange_583 : decode cX9_layRange 583 = .ok (.bipush 48, 2) := by decide +kernel
theorem dX9_layRange_585 : decode cX9_layRange 585 = .ok (.isub, 1) := by decide +kernel
theorem dX9_layRange_586 : decode cX9_layRange 586 = .ok (.istore 20, 2) := by decide +kernel
theorem dX9_layRange_588 : decode cX9_layRange 588 = .ok (.iload 6, 2) := by decide +kernel
theorem dX9_layRange_590 : decode cX9_layRange 590 = .ok (.iload 20, 2) := by decide +kernel
theorem dX9_layRange_592 : decode cX9_layRange 592 = .ok (.idiv, 1) := by decide +kernel
theorem dX9_layRange_593 : decode cX9_layRange 593 = .ok (.iload 7, 2) := by decide +kernel
theorem dX9_layRange_595 : decode cX9_layRange 595 = .ok (.iload 20, 2) := by decide +kernel
theorem dX9_layRange_597 : decode cX9_layRange 597 = .ok (.idiv, 1) := by decide +kernel
theorem dX9_layRange_598 : decode cX9_layRange 598 = .ok (.if_icmp .ne 38, 3) := by decide +kernel
theorem dX9_layRange_601 : decode cX9_layRange 601 = .ok (.iload 6, 2) := by decide +kernel
theorem dX9_layRange_603 : decode cX9_layRange 603 = .ok (.ifCond .ge 8, 3) := by decide +kernel
theorem dX9_layRange_606 : decode cX9_layRange 606 = .ok (.iload 7, 2) := by decide +kernel
theorem dX9_layRange_608 : decode cX9_layRange 608 = .ok (.ifCond .gt 28, 3) := by decide +kernel
theorem dX9_layRange_611 : decode cX9_layRange 611 = .ok (.aload_n 0, 1) := by decide +kernel
theorem dX9_layRange_612 : decode cX9_layRange 612 = .ok (.getfield 49, 3) := by decide +kernel
theorem dX9_layRange_615 : decode cX9_layRange 615 = .ok (.iload_n 2, 1) := by decide +kernel
theorem dX9_layRange_616 : decode cX9_layRange 616 = .ok (.iload 6, 2) := by decide +kernel
theorem dX9_layRange_618 : decode cX9_layRange 618 = .ok (.iload 20, 2) := by decide +kernel
theorem dX9_layRange_620 : decode cX9_layRange 620 = .ok (.irem, 1) := by decide +kernel
theorem dX9_layRange_621 : decode cX9_layRange 621 = .ok (.iastore, 1) := by decide +kernel
theorem dX9_layRange_622 : decode cX9_layRange 622 = .ok (.aload_n 0, 1) := by decide +kernel
theorem dX9_layRange_623 : decode cX9_layRange 623 = .ok (.getfield 52, 3) := by decide +kernel
theorem dX9_layRange_626 : decode cX9_layRange 626 = .ok (.iload_n 2, 1) := by decide +kernel
theorem dX9_layRange_627 : decode cX9_layRange 627 = .ok (.iload 7, 2) := by decide +kernel
theorem dX9_layRange_629 : decode cX9_layRange 629 = .ok (.iload 20, 2) := by decide +kernel
theorem dX9_layRange_631 : decode cX9_layRange 631 = .ok (.irem, 1) := by decide +kernel
theorem dX9_layRange_632 : decode cX9_layRange 632 = .ok (.iastore, 1) := by decide +kernel
theorem dX9_layRange_633 : decode cX9_layRange 633 = .ok (.goto 145, 3) := by decide +kernel
theorem dX9_layRange_636 : decode cX9_layRange 636 = .ok (.aload_n 0, 1) := by decide +kernel
theorem dX9_layRange_637 : decode cX9_layRange 637 = .ok (.getfield 49, 3) := by decide +kernel
theorem dX9_layRange_640 : decode cX9_layRange 640 = .ok (.iload_n 2, 1) := by decide +kernel
theorem dX9_layRange_641 : decode cX9_layRange 641 = .ok (.iload 6, 2) := by decide +kernel
theorem dX9_layRange_643 : decode cX9_layRange 643 = .ok (.ifCond .lt 7, 3) := by decide +kernel
theorem dX9_layRange_646 : decode cX9_layRange 646 = .ok (.iconst 0, 1) := by decide +kernel
theorem dX9_layRange_647 : decode cX9_layRange 647 = .ok (.goto 21, 3) := by decide +kernel
theorem dX9_layRange_650 : decode cX9_layRange 650 = .ok (.iload 6, 2) := by decide +kernel
theorem dX9_layRange_652 : decode cX9_layRange 652 = .ok (.iconst 1, 1) := by decide +kernel
theorem dX9_layRange_653 : decode cX9_layRange 653 = .ok (.iload 20, 2) := by decide +kernel
theorem dX9_layRange_655 : decode cX9_layRange 655 = .ok (.isub, 1) := by decide +kernel
theorem dX9_layRange_656 : decode cX9_layRange 656 = .ok (.if_icmp .le 8, 3) := by decide +kernel
theorem dX9_layRange_659 : decode cX9_layRange 659 = .ok (.iload 6, 2) := by decide +kernel
theorem dX9_layRange_661 : decode cX9_layRange 661 = .ok (.goto 7, 3) := by decide +kernel
theorem dX9_layRange_664 : decode cX9_layRange 664 = .ok (.iconst 1, 1) := by decide +kernel
theorem dX9_layRange_665 : decode cX9_layRange 665 = .ok (.iload 20, 2) := by decide +kernel
theorem dX9_layRange_667 : decode cX9_layRange 667 = .ok (.isub, 1) := by decide +kernel
theorem dX9_layRange_668 : decode cX9_layRange 668 = .ok (.iastore, 1) := by decide +kernel
theorem dX9_layRange_669 : decode cX9_layRange 669 = .ok (.aload_n 0, 1) := by decide +kernel
theorem dX9_layRange_670 : decode cX9_layRange 670 = .ok (.getfield 52, 3) := by decide +kernel
theorem dX9_layRange_673 : decode cX9_layRange 673 = .ok (.iload_n 2, 1) := by decide +kernel
theorem dX9_layRange_674 : decode cX9_layRange 674 = .ok (.iload 7, 2) := by decide +kernel
theorem dX9_layRange_676 : decode cX9_layRange 676 = .ok (.ifCond .gt 7, 3) := by decide +kernel
theorem dX9_layRange_679 : decode cX9_layRange 679 = .ok (.iconst 0, 1) := by decide +kernel
theorem dX9_layRange_680 : decode cX9_layRange 680 = .ok (.goto 21, 3) := by decide +kernel
theorem dX9_layRange_683 : decode cX9_layRange 683 = .ok (.iload 7, 2) := by decide +kernel
theorem dX9_layRange_685 : decode cX9_layRange 685 = .ok (.iload 20, 2) := by decide +kernel
theorem dX9_layRange_687 : decode cX9_layRange 687 = .ok (.iconst 1, 1) := by decide +kernel
theorem dX9_layRange_688 : decode cX9_layRange 688 = .ok (.isub, 1) := by decide +kernel
theorem dX9_layRange_689 : decode cX9_layRange 689 = .ok (.if_icmp .ge 8, 3) := by decide +kernel
theorem dX9_layRange_692 : decode cX9_layRange 692 = .ok (.iload 7, 2) := by decide +kernel
theorem dX9_layRange_694 : decode cX9_layRange 694 = .ok (.goto 7, 3) := by decide +kernel
theorem dX9_layRange_697 : decode cX9_layRange 697 = .ok (.iload 20, 2) := by decide +kernel
theorem dX9_layRange_699 : decode cX9_layRange 699 = .ok (.iconst 1, 1) := by decide +kernel
theorem dX9_layRange_700 : decode cX9_layRange 700 = .ok (.isub, 1) := by decide +kernel
theorem dX9_layRange_701 : decode cX9_layRange 701 = .ok (.iastore, 1) := by decide +kernel
theorem dX9_layRange_702 : decode cX9_layRange 702 = .ok (.goto 76, 3) := by decide +kernel
theorem dX9_layRange_705 : decode cX9_layRange 705 = .ok (.iload 7, 2) := by decide +kernel
theorem dX9_layRange_707 : decode cX9_layRange 707 = .ok (.iload 6, 2) := by decide +kernel
theorem dX9_layRange_709 : decode cX9_layRange 709 = .ok (.isub, 1) := by decide +kernel
theorem dX9_layRange_710 : decode cX9_layRange 710 = .ok (.sipush 256, 3) := by decide +kernel
theorem dX9_layRange_713 : decode cX9_layRange 713 = .ok (.if_icmp .ge 20, 3) := by decide +kernel
theorem dX9_layRange_716 : decode cX9_layRange 716 = .ok (.iload 6, 2) := by decide +kernel
theorem dX9_layRange_718 : decode cX9_layRange 718 = .ok (.invokestatic 142, 3) := by decide +kernel
theorem dX9_layRange_721 : decode cX9_layRange 721 = .ok (.iload 7, 2) := by decide +kernel
theorem dX9_layRange_723 : decode cX9_layRange 723 = .ok (.invokestatic 142, 3) := by decide +kernel
theorem dX9_layRange_726 : decode cX9_layRange 726 = .ok (.if_icmp .gt 7, 3) := by decide +kernel
theorem dX9_layRange_729 : decode cX9_layRange 729 = .ok (.iconst 1, 1) := by decide +kernel
theorem dX9_layRange_730 : decode cX9_layRange 730 = .ok (.goto 4, 3) := by decide +kernel
theorem dX9_layRange_733 : decode cX9_layRange 733 = .ok (.iconst 0, 1) := by decide +kernel
theorem dX9_layRange_734 : decode cX9_layRange 734 = .ok (.istore 21, 2) := by decide +kernel
theorem dX9_layRange_736 : decode cX9_layRange 736 = .ok (.aload_n 0, 1) := by decide +kernel
theorem dX9_layRange_737 : decode cX9_layRange 737 = .ok (.getfield 49, 3) := by decide +kernel
theorem dX9_layRange_740 : decode cX9_layRange 740 = .ok (.iload_n 2, 1) := by decide +kernel
theorem dX9_layRange_741 : decode cX9_layRange 741 = .ok (.iload 21, 2) := by decide +kernel
theorem dX9_layRange_743 : decode cX9_layRange 743 = .ok (.ifCond .eq 11, 3) := by decide +kernel
theorem dX9_layRange_746 : decode cX9_layRange 746 = .ok (.iload 6, 2) := by decide +kernel
theorem dX9_layRange_748 : decode cX9_layRange 748 = .ok (.invokestatic 142, 3) := by decide +kernel
theorem dX9_layRange_751 : decode cX9_layRange 751 = .ok (.goto 5, 3) := by decide +kernel
theorem dX9_layRange_754 : decode cX9_layRange 754 = .ok (.bipush (-128), 2) := by decide +kernel
theorem dX9_layRange_756 : decode cX9_layRange 756 = .ok (.iastore, 1) := by decide +kernel
theorem dX9_layRange_757 : decode cX9_layRange 757 = .ok (.aload_n 0, 1) := by decide +kernel
theorem dX9_layRange_758 : decode cX9_layRange 758 = .ok (.getfield 52, 3) := by decide +kernel
theorem dX9_layRange_761 : decode cX9_layRange 761 = .ok (.iload_n 2, 1) := by decide +kernel
theorem dX9_layRange_762 : decode cX9_layRange 762 = .ok (.iload 21, 2) := by decide +kernel
theorem dX9_layRange_764 : decode cX9_layRange 764 = .ok (.ifCond .eq 11, 3) := by decide +kernel
theorem dX9_layRange_767 : decode cX9_layRange 767 = .ok (.iload 7, 2) := by decide +kernel
theorem dX9_layRange_769 : decode cX9_layRange 769 = .ok (.invokestatic 142, 3) := by decide +kernel
theorem dX9_layRange_772 : decode cX9_layRange 772 = .ok (.goto 5, 3) := by decide +kernel
theorem dX9_layRange_775 : decode cX9_layRange 775 = .ok (.bipush 127, 2) := by decide +kernel
theorem dX9_layRange_777 : decode cX9_layRange 777 = .ok (.iastore, 1) := by decide +kernel
theorem dX9_layRange_778 : decode cX9_layRange 778 = .ok (.return_, 1) := by decide +kernel
theorem dX9_bit_0 : decode cX9_bit 0 = .ok (.iload_n 0, 1) := by decide +kernel
theorem dX9_bit_1 : decode cX9_bit 1 = .ok (.iconst 1, 1) := by decide +kernel
theorem dX9_bit_2 : decode cX9_bit 2 = .ok (.if_icmp .ne 7, 3) := by decide +kernel
theorem dX9_bit_5 : decode cX9_bit 5 = .ok (.iconst 1, 1) := by decide +kernel
theorem dX9_bit_6 : decode cX9_bit 6 = .ok (.goto 12, 3) := by decide +kernel
theorem dX9_bit_9 : decode cX9_bit 9 = .ok (.iload_n 0, 1) := by decide +kernel
theorem dX9_bit_10 : decode cX9_bit 10 = .ok (.ifCond .ne 7, 3) := by decide +kernel
theorem dX9_bit_13 : decode cX9_bit 13 = .ok (.iconst 2, 1) := by decide +kernel
theorem dX9_bit_14 : decode cX9_bit 14 = .ok (.goto 4, 3) := by decide +kernel
theorem dX9_bit_17 : decode cX9_bit 17 = .ok (.iconst 4, 1) := by decide +kernel
theorem dX9_bit_18 : decode cX9_bit 18 = .ok (.ireturn, 1) := by decide +kernel
theorem dX9_mayAt_0 : decode cX9_mayAt 0 = .ok (.aload_n 0, 1) := by decide +kernel
theorem dX9_mayAt_1 : decode cX9_mayAt 1 = .ok (.getfield 25, 3) := by decide +kernel
theorem dX9_mayAt_4 : decode cX9_mayAt 4 = .ok (.iload_n 2, 1) := by decide +kernel
theorem dX9_mayAt_5 : decode cX9_mayAt 5 = .ok (.iaload, 1) := by decide +kernel
theorem dX9_mayAt_6 : decode cX9_mayAt 6 = .ok (.istore_n 3, 1) := by decide +kernel
theorem dX9_mayAt_7 : decode cX9_mayAt 7 = .ok (.iload_n 3, 1) := by decide +kernel
theorem dX9_mayAt_8 : decode cX9_mayAt 8 = .ok (.bipush 15, 2) := by decide +kernel
theorem dX9_mayAt_10 : decode cX9_mayAt 10 = .ok (.if_icmp .ne 58, 3) := by decide +kernel
theorem dX9_mayAt_13 : decode cX9_mayAt 13 = .ok (.aload_n 0, 1) := by decide +kernel
theorem dX9_mayAt_14 : decode cX9_mayAt 14 = .ok (.getfield 16, 3) := by decide +kernel
theorem dX9_mayAt_17 : decode cX9_mayAt 17 = .ok (.bipush 12, 2) := by decide +kernel
theorem dX9_mayAt_19 : decode cX9_mayAt 19 = .ok (.iconst 4, 1) := by decide +kernel
theorem dX9_mayAt_20 : decode cX9_mayAt 20 = .ok (.iload_n 1, 1) := by decide +kernel
theorem dX9_mayAt_21 : decode cX9_mayAt 21 = .ok (.imul, 1) := by decide +kernel
theorem dX9_mayAt_22 : decode cX9_mayAt 22 = .ok (.aload_n 0, 1) := by decide +kernel
theorem dX9_mayAt_23 : decode cX9_mayAt 23 = .ok (.getfield 22, 3) := by decide +kernel
theorem dX9_mayAt_26 : decode cX9_mayAt 26 = .ok (.iload_n 2, 1) := by decide +kernel
theorem dX9_mayAt_27 : decode cX9_mayAt 27 = .ok (.iconst 1, 1) := by decide +kernel
theorem dX9_mayAt_28 : decode cX9_mayAt 28 = .ok (.iadd, 1) := by decide +kernel
theorem dX9_mayAt_29 : decode cX9_mayAt 29 = .ok (.iaload, 1) := by decide +kernel
theorem dX9_mayAt_30 : decode cX9_mayAt 30 = .ok (.iadd, 1) := by decide +kernel
theorem dX9_mayAt_31 : decode cX9_mayAt 31 = .ok (.bipush 97, 2) := by decide +kernel
theorem dX9_mayAt_33 : decode cX9_mayAt 33 = .ok (.isub, 1) := by decide +kernel
theorem dX9_mayAt_34 : decode cX9_mayAt 34 = .ok (.imul, 1) := by decide +kernel
theorem dX9_mayAt_35 : decode cX9_mayAt 35 = .ok (.iconst 2, 1) := by decide +kernel
theorem dX9_mayAt_36 : decode cX9_mayAt 36 = .ok (.iadd, 1) := by decide +kernel
theorem dX9_mayAt_37 : decode cX9_mayAt 37 = .ok (.iaload, 1) := by decide +kernel
theorem dX9_mayAt_38 : decode cX9_mayAt 38 = .ok (.istore 4, 2) := by decide +kernel
theorem dX9_mayAt_40 : decode cX9_mayAt 40 = .ok (.iload 4, 2) := by decide +kernel
theorem dX9_mayAt_42 : decode cX9_mayAt 42 = .ok (.ifCond .le 7, 3) := by decide +kernel
theorem dX9_mayAt_45 : decode cX9_mayAt 45 = .ok (.iconst 1, 1) := by decide +kernel
theorem dX9_mayAt_46 : decode cX9_mayAt 46 = .ok (.goto 4, 3) := by decide +kernel
theorem dX9_mayAt_49 : decode cX9_mayAt 49 = .ok (.iconst 0, 1) := by decide +kernel
theorem dX9_mayAt_50 : decode cX9_mayAt 50 = .ok (.iload 4, 2) := by decide +kernel
theorem dX9_mayAt_52 : decode cX9_mayAt 52 = .ok (.aload_n 0, 1) := by decide +kernel
theorem dX9_mayAt_53 : decode cX9_mayAt 53 = .ok (.getfield 13, 3) := by decide +kernel
theorem dX9_mayAt_56 : decode cX9_mayAt 56 = .ok (.iload_n 1, 1) := by decide +kernel
theorem dX9_mayAt_57 : decode cX9_mayAt 57 = .ok (.iaload, 1) := by decide +kernel
theorem dX9_mayAt_58 : decode cX9_mayAt 58 = .ok (.if_icmp .ge 7, 3) := by decide +kernel
theorem dX9_mayAt_61 : decode cX9_mayAt 61 = .ok (.iconst 2, 1) := by decide +kernel
theorem dX9_mayAt_62 : decode cX9_mayAt 62 = .ok (.goto 4, 3) := by decide +kernel
theorem dX9_mayAt_65 : decode cX9_mayAt 65 = .ok (.iconst 0, 1) := by decide +kernel
theorem dX9_mayAt_66 : decode cX9_mayAt 66 = .ok (.iadd, 1) := by decide +kernel
theorem dX9_mayAt_67 : decode cX9_mayAt 67 = .ok (.ireturn, 1) := by decide +kernel
theorem dX9_mayAt_68 : decode cX9_mayAt 68 = .ok (.aload_n 0, 1) := by decide +kernel
theorem dX9_mayAt_69 : decode cX9_mayAt 69 = .ok (.getfield 28, 3) := by decide +kernel
theorem dX9_mayAt_72 : decode cX9_mayAt 72 = .ok (.iload_n 2, 1) := by decide +kernel
theorem dX9_mayAt_73 : decode cX9_mayAt 73 = .ok (.iaload, 1) := by decide +kernel
theorem dX9_mayAt_74 : decode cX9_mayAt 74 = .ok (.istore 4, 2) := by decide +kernel
theorem dX9_mayAt_76 : decode cX9_mayAt 76 = .ok (.iload_n 3, 1) := by decide +kernel
theorem dX9_mayAt_77 : decode cX9_mayAt 77 = .ok (.invokestatic 113, 3) := by decide +kernel
theorem dX9_mayAt_80 : decode cX9_mayAt 80 = .ok (.iconst 1, 1) := by decide +kernel
theorem dX9_mayAt_81 : decode cX9_mayAt 81 = .ok (.if_icmp .le 12, 3) := by decide +kernel
theorem dX9_mayAt_84 : decode cX9_mayAt 84 = .ok (.aload_n 0, 1) := by decide +kernel
theorem dX9_mayAt_85 : decode cX9_mayAt 85 = .ok (.getfield 31, 3) := by decide +kernel
theorem dX9_mayAt_88 : decode cX9_mayAt 88 = .ok (.iload_n 2, 1) := by decide +kernel
theorem dX9_mayAt_89 : decode cX9_mayAt 89 = .ok (.iaload, 1) := by decide +kernel
theorem dX9_mayAt_90 : decode cX9_mayAt 90 = .ok (.goto 5, 3) := by decide +kernel
theorem dX9_mayAt_93 : decode cX9_mayAt 93 = .ok (.iload 4, 2) := by decide +kernel
theorem dX9_mayAt_95 : decode cX9_mayAt 95 = .ok (.istore 5, 2) := by decide +kernel
theorem dX9_mayAt_97 : decode cX9_mayAt 97 = .ok (.iload_n 3, 1) := by decide +kernel
theorem dX9_mayAt_98 : decode cX9_mayAt 98 = .ok (.bipush 10, 2) := by decide +kernel
theorem dX9_mayAt_100 : decode cX9_mayAt 100 = .ok (.if_icmp .eq 9, 3) := by decide +kernel
theorem dX9_mayAt_103 : decode cX9_mayAt 103 = .ok (.iload_n 3, 1) := by decide +kernel
theorem dX9_mayAt_104 : decode cX9_mayAt 104 = .ok (.bipush 11, 2) := by decide +kernel
theorem dX9_mayAt_106 : decode cX9_mayAt 106 = .ok (.if_icmp .ne 226, 3) := by decide +kernel
theorem dX9_mayAt_109 : decode cX9_mayAt 109 = .ok (.aload_n 0, 1) := by decide +kernel
theorem dX9_mayAt_110 : decode cX9_mayAt 110 = .ok (.getfield 46, 3) := by decide +kernel
theorem dX9_mayAt_113 : decode cX9_mayAt 113 = .ok (.iload 4, 2) := by decide +kernel
theorem dX9_mayAt_115 : decode cX9_mayAt 115 = .ok (.iaload, 1) := by decide +kernel
theorem dX9_mayAt_116 : decode cX9_mayAt 116 = .ok (.aload_n 0, 1) := by decide +kernel
theorem dX9_mayAt_117 : decode cX9_mayAt 117 = .ok (.getfield 46, 3) := by decide +kernel
theorem dX9_mayAt_120 : decode cX9_mayAt 120 = .ok (.iload 5, 2) := by decide +kernel
theorem dX9_mayAt_122 : decode cX9_mayAt 122 = .ok (.iaload, 1) := by decide +kernel
theorem dX9_mayAt_123 : decode cX9_mayAt 123 = .ok (.ior, 1) := by decide +kernel
theorem dX9_mayAt_124 : decode cX9_mayAt 124 = .ok (.iconst 2, 1) := by decide +kernel
theorem dX9_mayAt_125 : decode cX9_mayAt 125 = .ok (.iand, 1) := by decide +kernel
theorem dX9_mayAt_126 : decode cX9_mayAt 126 = .ok (.ifCond .eq 7, 3) := by decide +kernel
theorem dX9_mayAt_129 : decode cX9_mayAt 129 = .ok (.iconst 4, 1) := by decide +kernel
theorem dX9_mayAt_130 : decode cX9_mayAt 130 = .ok (.goto 4, 3) := by decide +kernel
theorem dX9_mayAt_133 : decode cX9_mayAt 133 = .ok (.iconst 0, 1) := by decide +kernel
theorem dX9_mayAt_134 : decode cX9_mayAt 134 = .ok (.istore 6, 2) := by decide +kernel
theorem dX9_mayAt_136 : decode cX9_mayAt 136 = .ok (.aload_n 0, 1) := by decide +kernel
theorem dX9_mayAt_137 : decode cX9_mayAt 137 = .ok (.getfield 46, 3) := by decide +kernel
theorem dX9_mayAt_140 : decode cX9_mayAt 140 = .ok (.iload 4, 2) := by decide +kernel
theorem dX9_mayAt_142 : decode cX9_mayAt 142 = .ok (.iaload, 1) := by decide +kernel
theorem dX9_mayAt_143 : decode cX9_mayAt 143 = .ok (.aload_n 0, 1) := by decide +kernel
theorem dX9_mayAt_144 : decode cX9_mayAt 144 = .ok (.getfield 46, 3) := by decide +kernel
theorem dX9_mayAt_147 : decode cX9_mayAt 147 = .ok (.iload 5, 2) := by decide +kernel
theorem dX9_mayAt_149 : decode cX9_mayAt 149 = .ok (.iaload, 1) := by decide +kernel
theorem dX9_mayAt_150 : decode cX9_mayAt 150 = .ok (.iand, 1) := by decide +kernel
theorem dX9_mayAt_151 : decode cX9_mayAt 151 = .ok (.iconst 1, 1) := by decide +kernel
theorem dX9_mayAt_152 : decode cX9_mayAt 152 = .ok (.iand, 1) := by decide +kernel
theorem dX9_mayAt_153 : decode cX9_mayAt 153 = .ok (.iconst 1, 1) := by decide +kernel
theorem dX9_mayAt_154 : decode cX9_mayAt 154 = .ok (.if_icmp .ne 175, 3) := by decide +kernel
theorem dX9_mayAt_157 : decode cX9_mayAt 157 = .ok (.iload_n 3, 1) := by decide +kernel
theorem dX9_mayAt_158 : decode cX9_mayAt 158 = .ok (.bipush 10, 2) := by decide +kernel
theorem dX9_mayAt_160 : decode cX9_mayAt 160 = .ok (.if_icmp .ne 56, 3) := by decide +kernel
theorem dX9_mayAt_163 : decode cX9_mayAt 163 = .ok (.iload 6, 2) := by decide +kernel
theorem dX9_mayAt_165 : decode cX9_mayAt 165 = .ok (.aload_n 0, 1) := by decide +kernel
theorem dX9_mayAt_166 : decode cX9_mayAt 166 = .ok (.getfield 49, 3) := by decide +kernel
theorem dX9_mayAt_169 : decode cX9_mayAt 169 = .ok (.iload 4, 2) := by decide +kernel
theorem dX9_mayAt_171 : decode cX9_mayAt 171 = .ok (.iaload, 1) := by decide +kernel
theorem dX9_mayAt_172 : decode cX9_mayAt 172 = .ok (.aload_n 0, 1) := by decide +kernel
theorem dX9_mayAt_173 : decode cX9_mayAt 173 = .ok (.getfield 52, 3) := by decide +kernel
theorem dX9_mayAt_176 : decode cX9_mayAt 176 = .ok (.iload 5, 2) := by decide +kernel
theorem dX9_mayAt_178 : decode cX9_mayAt 178 = .ok (.iaload, 1) := by decide +kernel
theorem dX9_mayAt_179 : decode cX9_mayAt 179 = .ok (.if_icmp .ge 7, 3) := by decide +kernel
theorem dX9_mayAt_182 : decode cX9_mayAt 182 = .ok (.iconst 1, 1) := by decide +kernel
theorem dX9_mayAt_183 : decode cX9_mayAt 183 = .ok (.goto 4, 3) := by decide +kernel
theorem dX9_mayAt_186 : decode cX9_mayAt 186 = .ok (.iconst 0, 1) := by decide +kernel
theorem dX9_mayAt_187 : decode cX9_mayAt 187 = .ok (.aload_n 0, 1) := by decide +kernel
theorem dX9_mayAt_188 : decode cX9_mayAt 188 = .ok (.getfield 52, 3) := by decide +kernel
theorem dX9_mayAt_191 : decode cX9_mayAt 191 = .ok (.iload 4, 2) := by decide +kernel
theorem dX9_mayAt_193 : decode cX9_mayAt 193 = .ok (.iaload, 1) := by decide +kernel
theorem dX9_mayAt_194 : decode cX9_mayAt 194 = .ok (.aload_n 0, 1) := by decide +kernel
theorem dX9_mayAt_195 : decode cX9_mayAt 195 = .ok (.getfield 49, 3) := by decide +kernel
theorem dX9_mayAt_198 : decode cX9_mayAt 198 = .ok (.iload 5, 2) := by decide +kernel
theorem dX9_mayAt_200 : decode cX9_mayAt 200 = .ok (.iaload, 1) := by decide +kernel
theorem dX9_mayAt_201 : decode cX9_mayAt 201 = .ok (.if_icmp .lt 7, 3) := by decide +kernel
theorem dX9_mayAt_204 : decode cX9_mayAt 204 = .ok (.iconst 2, 1) := by decide +kernel
theorem dX9_mayAt_205 : decode cX9_mayAt 205 = .ok (.goto 4, 3) := by decide +kernel
theorem dX9_mayAt_208 : decode cX9_mayAt 208 = .ok (.iconst 0, 1) := by decide +kernel
theorem dX9_mayAt_209 : decode cX9_mayAt 209 = .ok (.iadd, 1) := by decide +kernel
theorem dX9_mayAt_210 : decode cX9_mayAt 210 = .ok (.iadd, 1) := by decide +kernel
theorem dX9_mayAt_211 : decode cX9_mayAt 211 = .ok (.istore 6, 2) := by decide +kernel
theorem dX9_mayAt_213 : decode cX9_mayAt 213 = .ok (.goto 116, 3) := by decide +kernel
theorem dX9_mayAt_216 : decode cX9_mayAt 216 = .ok (.aload_n 0, 1) := by decide +kernel
theorem dX9_mayAt_217 : decode cX9_mayAt 217 = .ok (.getfield 49, 3) := by decide +kernel
theorem dX9_mayAt_220 : decode cX9_mayAt 220 = .ok (.iload 4, 2) := by decide +kernel
theorem dX9_mayAt_222 : decode cX9_mayAt 222 = .ok (.iaload, 1) := by decide +kernel
theorem dX9_mayAt_223 : decode cX9_mayAt 223 = .ok (.aload_n 0, 1) := by decide +kernel
theorem dX9_mayAt_224 : decode cX9_mayAt 224 = .ok (.getfield 52, 3) := by decide +kernel
theorem dX9_mayAt_227 : decode cX9_mayAt 227 = .ok (.iload 4, 2) := by decide +kernel
theorem dX9_mayAt_229 : decode cX9_mayAt 229 = .ok (.iaload, 1) := by decide +kernel
theorem dX9_mayAt_230 : decode cX9_mayAt 230 = .ok (.if_icmp .ne 41, 3) := by decide +kernel
theorem dX9_mayAt_233 : decode cX9_mayAt 233 = .ok (.aload_n 0, 1) := by decide +kernel
theorem dX9_mayAt_234 : decode cX9_mayAt 234 = .ok (.getfield 49, 3) := by decide +kernel
theorem dX9_mayAt_237 : decode cX9_mayAt 237 = .ok (.iload 4, 2) := by decide +kernel
theorem dX9_mayAt_239 : decode cX9_mayAt 239 = .ok (.iaload, 1) := by decide +kernel
theorem dX9_mayAt_240 : decode cX9_mayAt 240 = .ok (.aload_n 0, 1) := by decide +kernel
theorem dX9_mayAt_241 : decode cX9_mayAt 241 = .ok (.getfield 49, 3) := by decide +kernel
theorem dX9_mayAt_244 : decode cX9_mayAt 244 = .ok (.iload 5, 2) := by decide +kernel
theorem dX9_mayAt_246 : decode cX9_mayAt 246 = .ok (.iaload, 1) := by decide +kernel
theorem dX9_mayAt_247 : decode cX9_mayAt 247 = .ok (.if_icmp .ne 24, 3) := by decide +kernel
theorem dX9_mayAt_250 : decode cX9_mayAt 250 = .ok (.aload_n 0, 1) := by decide +kernel
theorem dX9_mayAt_251 : decode cX9_mayAt 251 = .ok (.getfield 49, 3) := by decide +kernel
theorem dX9_mayAt_254 : decode cX9_mayAt 254 = .ok (.iload 4, 2) := by decide +kernel
theorem dX9_mayAt_256 : decode cX9_mayAt 256 = .ok (.iaload, 1) := by decide +kernel
theorem dX9_mayAt_257 : decode cX9_mayAt 257 = .ok (.aload_n 0, 1) := by decide +kernel
theorem dX9_mayAt_258 : decode cX9_mayAt 258 = .ok (.getfield 52, 3) := by decide +kernel
theorem dX9_mayAt_261 : decode cX9_mayAt 261 = .ok (.iload 5, 2) := by decide +kernel
theorem dX9_mayAt_263 : decode cX9_mayAt 263 = .ok (.iaload, 1) := by decide +kernel
theorem dX9_mayAt_264 : decode cX9_mayAt 264 = .ok (.if_icmp .ne 7, 3) := by decide +kernel
theorem dX9_mayAt_267 : decode cX9_mayAt 267 = .ok (.iconst 1, 1) := by decide +kernel
theorem dX9_mayAt_268 : decode cX9_mayAt 268 = .ok (.goto 4, 3) := by decide +kernel
theorem dX9_mayAt_271 : decode cX9_mayAt 271 = .ok (.iconst 0, 1) := by decide +kernel
theorem dX9_mayAt_272 : decode cX9_mayAt 272 = .ok (.istore 7, 2) := by decide +kernel
theorem dX9_mayAt_274 : decode cX9_mayAt 274 = .ok (.iload 6, 2) := by decide +kernel
theorem dX9_mayAt_276 : decode cX9_mayAt 276 = .ok (.aload_n 0, 1) := by decide +kernel
theorem dX9_mayAt_277 : decode cX9_mayAt 277 = .ok (.getfield 49, 3) := by decide +kernel
theorem dX9_mayAt_280 : decode cX9_mayAt 280 = .ok (.iload 4, 2) := by decide +kernel
theorem dX9_mayAt_282 : decode cX9_mayAt 282 = .ok (.iaload, 1) := by decide +kernel
theorem dX9_mayAt_283 : decode cX9_mayAt 283 = .ok (.aload_n 0, 1) := by decide +kernel
theorem dX9_mayAt_284 : decode cX9_mayAt 284 = .ok (.getfield 52, 3) := by decide +kernel
theorem dX9_mayAt_287 : decode cX9_mayAt 287 = .ok (.iload 5, 2) := by decide +kernel
theorem dX9_mayAt_289 : decode cX9_mayAt 289 = .ok (.iaload, 1) := by decide +kernel
theorem dX9_mayAt_290 : decode cX9_mayAt 290 = .ok (.if_icmp .gt 24, 3) := by decide +kernel
theorem dX9_mayAt_293 : decode cX9_mayAt 293 = .ok (.aload_n 0, 1) := by decide +kernel
theorem dX9_mayAt_294 : decode cX9_mayAt 294 = .ok (.getfield 49, 3) := by decide +kernel
theorem dX9_mayAt_297 : decode cX9_mayAt 297 = .ok (.iload 5, 2) := by decide +kernel
theorem dX9_mayAt_299 : decode cX9_mayAt 299 = .ok (.iaload, 1) := by decide +kernel
theorem dX9_mayAt_300 : decode cX9_mayAt 300 = .ok (.aload_n 0, 1) := by decide +kernel
theorem dX9_mayAt_301 : decode cX9_mayAt 301 = .ok (.getfield 52, 3) := by decide +kernel
theorem dX9_mayAt_304 : decode cX9_mayAt 304 = .ok (.iload 4, 2) := by decide +kernel
theorem dX9_mayAt_306 : decode cX9_mayAt 306 = .ok (.iaload, 1) := by decide +kernel
theorem dX9_mayAt_307 : decode cX9_mayAt 307 = .ok (.if_icmp .gt 7, 3) := by decide +kernel
theorem dX9_mayAt_310 : decode cX9_mayAt 310 = .ok (.iconst 1, 1) := by decide +kernel
theorem dX9_mayAt_311 : decode cX9_mayAt 311 = .ok (.goto 4, 3) := by decide +kernel
theorem dX9_mayAt_314 : decode cX9_mayAt 314 = .ok (.iconst 0, 1) := by decide +kernel
theorem dX9_mayAt_315 : decode cX9_mayAt 315 = .ok (.iload 7, 2) := by decide +kernel
theorem dX9_mayAt_317 : decode cX9_mayAt 317 = .ok (.ifCond .eq 7, 3) := by decide +kernel
theorem dX9_mayAt_320 : decode cX9_mayAt 320 = .ok (.iconst 0, 1) := by decide +kernel
theorem dX9_mayAt_321 : decode cX9_mayAt 321 = .ok (.goto 4, 3) := by decide +kernel
theorem dX9_mayAt_324 : decode cX9_mayAt 324 = .ok (.iconst 2, 1) := by decide +kernel
theorem dX9_mayAt_325 : decode cX9_mayAt 325 = .ok (.iadd, 1) := by decide +kernel
theorem dX9_mayAt_326 : decode cX9_mayAt 326 = .ok (.iadd, 1) := by decide +kernel
theorem dX9_mayAt_327 : decode cX9_mayAt 327 = .ok (.istore 6, 2) := by decide +kernel
theorem dX9_mayAt_329 : decode cX9_mayAt 329 = .ok (.iload 6, 2) := by decide +kernel
theorem dX9_mayAt_331 : decode cX9_mayAt 331 = .ok (.ireturn, 1) := by decide +kernel
theorem dX9_mayAt_332 : decode cX9_mayAt 332 = .ok (.iconst 0, 1) := by decide +kernel
theorem dX9_mayAt_333 : decode cX9_mayAt 333 = .ok (.istore 6, 2) := by decide +kernel
theorem dX9_mayAt_335 : decode cX9_mayAt 335 = .ok (.iconst 0, 1) := by decide +kernel
theorem dX9_mayAt_336 : decode cX9_mayAt 336 = .ok (.istore 7, 2) := by decide +kernel
theorem dX9_mayAt_338 : decode cX9_mayAt 338 = .ok (.iload 7, 2) := by decide +kernel
theorem dX9_mayAt_340 : decode cX9_mayAt 340 = .ok (.iconst 3, 1) := by decide +kernel
theorem dX9_mayAt_341 : decode cX9_mayAt 341 = .ok (.if_icmp .ge 101, 3) := by decide +kernel
theorem dX9_mayAt_344 : decode cX9_mayAt 344 = .ok (.iconst 0, 1) := by decide +kernel
theorem dX9_mayAt_345 : decode cX9_mayAt 345 = .ok (.istore 8, 2) := by decide +kernel
theorem dX9_mayAt_347 : decode cX9_mayAt 347 = .ok (.iload 8, 2) := by decide +kernel
theorem dX9_mayAt_349 : decode cX9_mayAt 349 = .ok (.iconst 3, 1) := by decide +kernel
theorem dX9_mayAt_350 : decode cX9_mayAt 350 = .ok (.if_icmp .ge 86, 3) := by decide +kernel
theorem dX9_mayAt_353 : decode cX9_mayAt 353 = .ok (.aload_n 0, 1) := by decide +kernel
theorem dX9_mayAt_354 : decode cX9_mayAt 354 = .ok (.getfield 46, 3) := by decide +kernel
theorem dX9_mayAt_357 : decode cX9_mayAt 357 = .ok (.iload 4, 2) := by decide +kernel
theorem dX9_mayAt_359 : decode cX9_mayAt 359 = .ok (.iaload, 1) := by decide +kernel
theorem dX9_mayAt_360 : decode cX9_mayAt 360 = .ok (.iload 7, 2) := by decide +kernel
theorem dX9_mayAt_362 : decode cX9_mayAt 362 = .ok (.invokestatic 166, 3) := by decide +kernel
theorem dX9_mayAt_365 : decode cX9_mayAt 365 = .ok (.iand, 1) := by decide +kernel
theorem dX9_mayAt_366 : decode cX9_mayAt 366 = .ok (.ifCond .eq 64, 3) := by decide +kernel
theorem dX9_mayAt_369 : decode cX9_mayAt 369 = .ok (.aload_n 0, 1) := by decide +kernel
theorem dX9_mayAt_370 : decode cX9_mayAt 370 = .ok (.getfield 46, 3) := by decide +kernel
theorem dX9_mayAt_373 : decode cX9_mayAt 373 = .ok (.iload 5, 2) := by decide +kernel
theorem dX9_mayAt_375 : decode cX9_mayAt 375 = .ok (.iaload, 1) := by decide +kernel
theorem dX9_mayAt_376 : decode cX9_mayAt 376 = .ok (.iload 8, 2) := by decide +kernel
theorem dX9_mayAt_378 : decode cX9_mayAt 378 = .ok (.invokestatic 166, 3) := by decide +kernel
theorem dX9_mayAt_381 : decode cX9_mayAt 381 = .ok (.iand, 1) := by decide +kernel
theorem dX9_mayAt_382 : decode cX9_mayAt 382 = .ok (.ifCond .eq 48, 3) := by decide +kernel
theorem dX9_mayAt_385 : decode cX9_mayAt 385 = .ok (.iload 6, 2) := by decide +kernel
theorem dX9_mayAt_387 : decode cX9_mayAt 387 = .ok (.iload_n 3, 1) := by decide +kernel
theorem dX9_mayAt_388 : decode cX9_mayAt 388 = .ok (.bipush 14, 2) := by decide +kernel
theorem dX9_mayAt_390 : decode cX9_mayAt 390 = .ok (.if_icmp .ne 11, 3) := by decide +kernel
theorem dX9_mayAt_393 : decode cX9_mayAt 393 = .ok (.iload 7, 2) := by decide +kernel
theorem dX9_mayAt_395 : decode cX9_mayAt 395 = .ok (.invokestatic 145, 3) := by decide +kernel
theorem dX9_mayAt_398 : decode cX9_mayAt 398 = .ok (.goto 26, 3) := by decide +kernel
theorem dX9_mayAt_401 : decode cX9_mayAt 401 = .ok (.iload_n 3, 1) := by decide +kernel
theorem dX9_mayAt_402 : decode cX9_mayAt 402 = .ok (.bipush 12, 2) := by decide +kernel
theorem dX9_mayAt_404 : decode cX9_mayAt 404 = .ok (.if_icmp .ne 13, 3) := by decide +kernel
theorem dX9_mayAt_407 : decode cX9_mayAt 407 = .ok (.iload 7, 2) := by decide +kernel
theorem dX9_mayAt_409 : decode cX9_mayAt 409 = .ok (.iload 8, 2) := by decide +kernel
theorem dX9_mayAt_411 : decode cX9_mayAt 411 = .ok (.invokestatic 148, 3) := by decide +kernel
theorem dX9_mayAt_414 : decode cX9_mayAt 414 = .ok (.goto 10, 3) := by decide +kernel
theorem dX9_mayAt_417 : decode cX9_mayAt 417 = .ok (.iload 7, 2) := by decide +kernel
theorem dX9_mayAt_419 : decode cX9_mayAt 419 = .ok (.iload 8, 2) := by decide +kernel
theorem dX9_mayAt_421 : decode cX9_mayAt 421 = .ok (.invokestatic 151, 3) := by decide +kernel
theorem dX9_mayAt_424 : decode cX9_mayAt 424 = .ok (.invokestatic 166, 3) := by decide +kernel
theorem dX9_mayAt_427 : decode cX9_mayAt 427 = .ok (.ior, 1) := by decide +kernel
theorem dX9_mayAt_428 : decode cX9_mayAt 428 = .ok (.istore 6, 2) := by decide +kernel
theorem dX9_mayAt_430 : decode cX9_mayAt 430 = .ok (.iinc 8 1, 3) := by decide +kernel
theorem dX9_mayAt_433 : decode cX9_mayAt 433 = .ok (.goto (-86), 3) := by decide +kernel
theorem dX9_mayAt_436 : decode cX9_mayAt 436 = .ok (.iinc 7 1, 3) := by decide +kernel
theorem dX9_mayAt_439 : decode cX9_mayAt 439 = .ok (.goto (-101), 3) := by decide +kernel
theorem dX9_mayAt_442 : decode cX9_mayAt 442 = .ok (.iload 6, 2) := by decide +kernel
theorem dX9_mayAt_444 : decode cX9_mayAt 444 = .ok (.ireturn, 1) := by decide +kernel
theorem dX9_range_0 : decode cX9_range 0 = .ok (.iload_n 1, 1) := by decide +kernel
theorem dX9_range_1 : decode cX9_range 1 = .ok (.invokestatic 70, 3) := by decide +kernel
theorem dX9_range_4 : decode cX9_range 4 = .ok (.ifCond .ne 6, 3) := by decide +kernel
theorem dX9_range_7 : decode cX9_range 7 = .ok (.ldc 100, 2) := by decide +kernel
theorem dX9_range_9 : decode cX9_range 9 = .ok (.ireturn, 1) := by decide +kernel
theorem dX9_range_10 : decode cX9_range 10 = .ok (.iload_n 2, 1) := by decide +kernel
theorem dX9_range_11 : decode cX9_range 11 = .ok (.iconst 0, 1) := by decide +kernel
theorem dX9_range_12 : decode cX9_range 12 = .ok (.aload_n 0, 1) := by decide +kernel
theorem dX9_range_13 : decode cX9_range 13 = .ok (.getfield 102, 3) := by decide +kernel
theorem dX9_range_16 : decode cX9_range 16 = .ok (.iconst 1, 1) := by decide +kernel
theorem dX9_range_17 : decode cX9_range 17 = .ok (.isub, 1) := by decide +kernel
theorem dX9_range_18 : decode cX9_range 18 = .ok (.invokestatic 66, 3) := by decide +kernel
theorem dX9_range_21 : decode cX9_range 21 = .ok (.ifCond .eq 12, 3) := by decide +kernel
theorem dX9_range_24 : decode cX9_range 24 = .ok (.iload_n 3, 1) := by decide +kernel
theorem dX9_range_25 : decode cX9_range 25 = .ok (.iconst 0, 1) := by decide +kernel
theorem dX9_range_26 : decode cX9_range 26 = .ok (.iconst 2, 1) := by decide +kernel
theorem dX9_range_27 : decode cX9_range 27 = .ok (.invokestatic 66, 3) := by decide +kernel
theorem dX9_range_30 : decode cX9_range 30 = .ok (.ifCond .ne 6, 3) := by decide +kernel
theorem dX9_range_33 : decode cX9_range 33 = .ok (.ldc 101, 2) := by decide +kernel
theorem dX9_range_35 : decode cX9_range 35 = .ok (.ireturn, 1) := by decide +kernel
theorem dX9_range_36 : decode cX9_range 36 = .ok (.aload_n 0, 1) := by decide +kernel
theorem dX9_range_37 : decode cX9_range 37 = .ok (.invokevirtual 116, 3) := by decide +kernel
theorem dX9_range_40 : decode cX9_range 40 = .ok (.ldc 74, 2) := by decide +kernel
theorem dX9_range_42 : decode cX9_range 42 = .ok (.if_icmp .eq 6, 3) := by decide +kernel
theorem dX9_range_45 : decode cX9_range 45 = .ok (.ldc 169, 2) := by decide +kernel
theorem dX9_range_47 : decode cX9_range 47 = .ok (.ireturn, 1) := by decide +kernel
theorem dX9_range_48 : decode cX9_range 48 = .ok (.aload_n 0, 1) := by decide +kernel
theorem dX9_range_49 : decode cX9_range 49 = .ok (.getfield 13, 3) := by decide +kernel
theorem dX9_range_52 : decode cX9_range 52 = .ok (.iload_n 1, 1) := by decide +kernel
theorem dX9_range_53 : decode cX9_range 53 = .ok (.iaload, 1) := by decide +kernel
theorem dX9_range_54 : decode cX9_range 54 = .ok (.ifCond .eq 11, 3) := by decide +kernel
theorem dX9_range_57 : decode cX9_range 57 = .ok (.aload_n 0, 1) := by decide +kernel
theorem dX9_range_58 : decode cX9_range 58 = .ok (.iload_n 2, 1) := by decide +kernel
theorem dX9_range_59 : decode cX9_range 59 = .ok (.invokevirtual 126, 3) := by decide +kernel
theorem dX9_range_62 : decode cX9_range 62 = .ok (.ifCond .ne 6, 3) := by decide +kernel
theorem dX9_range_65 : decode cX9_range 65 = .ok (.ldc 170, 2) := by decide +kernel
theorem dX9_range_67 : decode cX9_range 67 = .ok (.ireturn, 1) := by decide +kernel
theorem dX9_range_68 : decode cX9_range 68 = .ok (.aload_n 0, 1) := by decide +kernel
theorem dX9_range_69 : decode cX9_range 69 = .ok (.iload_n 1, 1) := by decide +kernel
theorem dX9_range_70 : decode cX9_range 70 = .ok (.invokevirtual 171, 3) := by decide +kernel
theorem dX9_range_73 : decode cX9_range 73 = .ok (.aload_n 0, 1) := by decide +kernel
theorem dX9_range_74 : decode cX9_range 74 = .ok (.getfield 46, 3) := by decide +kernel
theorem dX9_range_77 : decode cX9_range 77 = .ok (.iload_n 2, 1) := by decide +kernel
theorem dX9_range_78 : decode cX9_range 78 = .ok (.iaload, 1) := by decide +kernel
theorem dX9_range_79 : decode cX9_range 79 = .ok (.iconst 1, 1) := by decide +kernel
theorem dX9_range_80 : decode cX9_range 80 = .ok (.iand, 1) := by decide +kernel
theorem dX9_range_81 : decode cX9_range 81 = .ok (.iconst 1, 1) := by decide +kernel
theorem dX9_range_82 : decode cX9_range 82 = .ok (.if_icmp .ne 7, 3) := by decide +kernel
theorem dX9_range_85 : decode cX9_range 85 = .ok (.iconst 1, 1) := by decide +kernel
theorem dX9_range_86 : decode cX9_range 86 = .ok (.goto 4, 3) := by decide +kernel
theorem dX9_range_89 : decode cX9_range 89 = .ok (.iconst 0, 1) := by decide +kernel
theorem dX9_range_90 : decode cX9_range 90 = .ok (.istore 4, 2) := by decide +kernel
theorem dX9_range_92 : decode cX9_range 92 = .ok (.iload_n 3, 1) := by decide +kernel
theorem dX9_range_93 : decode cX9_range 93 = .ok (.ifCond .ne 12, 3) := by decide +kernel
theorem dX9_range_96 : decode cX9_range 96 = .ok (.aload_n 0, 1) := by decide +kernel
theorem dX9_range_97 : decode cX9_range 97 = .ok (.getfield 46, 3) := by decide +kernel
theorem dX9_range_100 : decode cX9_range 100 = .ok (.iload_n 2, 1) := by decide +kernel
theorem dX9_range_101 : decode cX9_range 101 = .ok (.iaload, 1) := by decide +kernel
theorem dX9_range_102 : decode cX9_range 102 = .ok (.goto 33, 3) := by decide +kernel
theorem dX9_range_105 : decode cX9_range 105 = .ok (.iload 4, 2) := by decide +kernel
theorem dX9_range_107 : decode cX9_range 107 = .ok (.ifCond .ne 8, 3) := by decide +kernel
theorem dX9_range_110 : decode cX9_range 110 = .ok (.ldc 74, 2) := by decide +kernel
theorem dX9_range_112 : decode cX9_range 112 = .ok (.goto 23, 3) := by decide +kernel
theorem dX9_range_115 : decode cX9_range 115 = .ok (.iload_n 3, 1) := by decide +kernel
theorem dX9_range_116 : decode cX9_range 116 = .ok (.iconst 1, 1) := by decide +kernel
theorem dX9_range_117 : decode cX9_range 117 = .ok (.if_icmp .ne 12, 3) := by decide +kernel
theorem dX9_range_120 : decode cX9_range 120 = .ok (.aload_n 0, 1) := by decide +kernel
theorem dX9_range_121 : decode cX9_range 121 = .ok (.getfield 49, 3) := by decide +kernel
theorem dX9_range_124 : decode cX9_range 124 = .ok (.iload_n 2, 1) := by decide +kernel
theorem dX9_range_125 : decode cX9_range 125 = .ok (.iaload, 1) := by decide +kernel
theorem dX9_range_126 : decode cX9_range 126 = .ok (.goto 9, 3) := by decide +kernel
theorem dX9_range_129 : decode cX9_range 129 = .ok (.aload_n 0, 1) := by decide +kernel
theorem dX9_range_130 : decode cX9_range 130 = .ok (.getfield 52, 3) := by decide +kernel
theorem dX9_range_133 : decode cX9_range 133 = .ok (.iload_n 2, 1) := by decide +kernel
theorem dX9_range_134 : decode cX9_range 134 = .ok (.iaload, 1) := by decide +kernel
theorem dX9_range_135 : decode cX9_range 135 = .ok (.ireturn, 1) := by decide +kernel
theorem dX9_may_0 : decode cX9_may 0 = .ok (.iload_n 1, 1) := by decide +kernel
theorem dX9_may_1 : decode cX9_may 1 = .ok (.invokestatic 70, 3) := by decide +kernel
theorem dX9_may_4 : decode cX9_may 4 = .ok (.ifCond .ne 5, 3) := by decide +kernel
theorem dX9_may_7 : decode cX9_may 7 = .ok (.iconst (-1), 1) := by decide +kernel
theorem dX9_may_8 : decode cX9_may 8 = .ok (.ireturn, 1) := by decide +kernel
theorem dX9_may_9 : decode cX9_may 9 = .ok (.iload_n 2, 1) := by decide +kernel
theorem dX9_may_10 : decode cX9_may 10 = .ok (.iconst 0, 1) := by decide +kernel
theorem dX9_may_11 : decode cX9_may 11 = .ok (.aload_n 0, 1) := by decide +kernel
theorem dX9_may_12 : decode cX9_may 12 = .ok (.getfield 102, 3) := by decide +kernel
theorem dX9_may_15 : decode cX9_may 15 = .ok (.iconst 1, 1) := by decide +kernel
theorem dX9_may_16 : decode cX9_may 16 = .ok (.isub, 1) := by decide +kernel
theorem dX9_may_17 : decode cX9_may 17 = .ok (.invokestatic 66, 3) := by decide +kernel
theorem dX9_may_20 : decode cX9_may 20 = .ok (.ifCond .ne 6, 3) := by decide +kernel
theorem dX9_may_23 : decode cX9_may 23 = .ok (.bipush (-2), 2) := by decide +kernel
theorem dX9_may_25 : decode cX9_may 25 = .ok (.ireturn, 1) := by decide +kernel
theorem dX9_may_26 : decode cX9_may 26 = .ok (.aload_n 0, 1) := by decide +kernel
theorem dX9_may_27 : decode cX9_may 27 = .ok (.invokevirtual 116, 3) := by decide +kernel
theorem dX9_may_30 : decode cX9_may 30 = .ok (.ldc 74, 2) := by decide +kernel
theorem dX9_may_32 : decode cX9_may 32 = .ok (.if_icmp .eq 6, 3) := by decide +kernel
theorem dX9_may_35 : decode cX9_may 35 = .ok (.bipush (-5), 2) := by decide +kernel
theorem dX9_may_37 : decode cX9_may 37 = .ok (.ireturn, 1) := by decide +kernel
theorem dX9_may_38 : decode cX9_may 38 = .ok (.aload_n 0, 1) := by decide +kernel
theorem dX9_may_39 : decode cX9_may 39 = .ok (.getfield 13, 3) := by decide +kernel
theorem dX9_may_42 : decode cX9_may 42 = .ok (.iload_n 1, 1) := by decide +kernel
theorem dX9_may_43 : decode cX9_may 43 = .ok (.iaload, 1) := by decide +kernel
theorem dX9_may_44 : decode cX9_may 44 = .ok (.ifCond .eq 14, 3) := by decide +kernel
theorem dX9_may_47 : decode cX9_may 47 = .ok (.aload_n 0, 1) := by decide +kernel
theorem dX9_may_48 : decode cX9_may 48 = .ok (.getfield 25, 3) := by decide +kernel
theorem dX9_may_51 : decode cX9_may 51 = .ok (.iload_n 2, 1) := by decide +kernel
theorem dX9_may_52 : decode cX9_may 52 = .ok (.iaload, 1) := by decide +kernel
theorem dX9_may_53 : decode cX9_may 53 = .ok (.bipush 10, 2) := by decide +kernel
theorem dX9_may_55 : decode cX9_may 55 = .ok (.if_icmp .ge 6, 3) := by decide +kernel
theorem dX9_may_58 : decode cX9_may 58 = .ok (.bipush (-3), 2) := by decide +kernel
theorem dX9_may_60 : decode cX9_may 60 = .ok (.ireturn, 1) := by decide +kernel
theorem dX9_may_61 : decode cX9_may 61 = .ok (.aload_n 0, 1) := by decide +kernel
theorem dX9_may_62 : decode cX9_may 62 = .ok (.iload_n 1, 1) := by decide +kernel
theorem dX9_may_63 : decode cX9_may 63 = .ok (.invokevirtual 171, 3) := by decide +kernel
theorem dX9_may_66 : decode cX9_may 66 = .ok (.aload_n 0, 1) := by decide +kernel
theorem dX9_may_67 : decode cX9_may 67 = .ok (.getfield 46, 3) := by decide +kernel
theorem dX9_may_70 : decode cX9_may 70 = .ok (.iload_n 2, 1) := by decide +kernel
theorem dX9_may_71 : decode cX9_may 71 = .ok (.iaload, 1) := by decide +kernel
theorem dX9_may_72 : decode cX9_may 72 = .ok (.ireturn, 1) := by decide +kernel
theorem dX9_onlyColumn_0 : decode cX9_onlyColumn 0 = .ok (.ldc 74, 2) := by decide +kernel
theorem dX9_onlyColumn_2 : decode cX9_onlyColumn 2 = .ok (.istore_n 1, 1) := by decide +kernel
theorem dX9_onlyColumn_3 : decode cX9_onlyColumn 3 = .ok (.iconst 0, 1) := by decide +kernel
theorem dX9_onlyColumn_4 : decode cX9_onlyColumn 4 = .ok (.istore_n 2, 1) := by decide +kernel
theorem dX9_onlyColumn_5 : decode cX9_onlyColumn 5 = .ok (.iload_n 2, 1) := by decide +kernel
theorem dX9_onlyColumn_6 : decode cX9_onlyColumn 6 = .ok (.aload_n 0, 1) := by decide +kernel
theorem dX9_onlyColumn_7 : decode cX9_onlyColumn 7 = .ok (.getfield 102, 3) := by decide +kernel
theorem dX9_onlyColumn_10 : decode cX9_onlyColumn 10 = .ok (.if_icmp .ge 81, 3) := by decide +kernel
theorem dX9_onlyColumn_13 : decode cX9_onlyColumn 13 = .ok (.aload_n 0, 1) := by decide +kernel
theorem dX9_onlyColumn_14 : decode cX9_onlyColumn 14 = .ok (.getfield 25, 3) := by decide +kernel
theorem dX9_onlyColumn_17 : decode cX9_onlyColumn 17 = .ok (.iload_n 2, 1) := by decide +kernel
theorem dX9_onlyColumn_18 : decode cX9_onlyColumn 18 = .ok (.iaload, 1) := by decide +kernel
theorem dX9_onlyColumn_19 : decode cX9_onlyColumn 19 = .ok (.iconst 1, 1) := by decide +kernel
theorem dX9_onlyColumn_20 : decode cX9_onlyColumn 20 = .ok (.if_icmp .ne 15, 3) := by decide +kernel
theorem dX9_onlyColumn_23 : decode cX9_onlyColumn 23 = .ok (.aload_n 0, 1) := by decide +kernel
theorem dX9_onlyColumn_24 : decode cX9_onlyColumn 24 = .ok (.getfield 22, 3) := by decide +kernel
theorem dX9_onlyColumn_27 : decode cX9_onlyColumn 27 = .ok (.iload_n 2, 1) := by decide +kernel
theorem dX9_onlyColumn_28 : decode cX9_onlyColumn 28 = .ok (.iaload, 1) := by decide +kernel
theorem dX9_onlyColumn_29 : decode cX9_onlyColumn 29 = .ok (.bipush 97, 2) := by decide +kernel
theorem dX9_onlyColumn_31 : decode cX9_onlyColumn 31 = .ok (.isub, 1) := by decide +kernel
theorem dX9_onlyColumn_32 : decode cX9_onlyColumn 32 = .ok (.goto 30, 3) := by decide +kernel
theorem dX9_onlyColumn_35 : decode cX9_onlyColumn 35 = .ok (.aload_n 0, 1) := by decide +kernel
theorem dX9_onlyColumn_36 : decode cX9_onlyColumn 36 = .ok (.getfield 25, 3) := by decide +kernel
theorem dX9_onlyColumn_39 : decode cX9_onlyColumn 39 = .ok (.iload_n 2, 1) := by decide +kernel
theorem dX9_onlyColumn_40 : decode cX9_onlyColumn 40 = .ok (.iaload, 1) := by decide +kernel
theorem dX9_onlyColumn_41 : decode cX9_onlyColumn 41 = .ok (.bipush 15, 2) := by decide +kernel
theorem dX9_onlyColumn_43 : decode cX9_onlyColumn 43 = .ok (.if_icmp .ne 17, 3) := by decide +kernel
theorem dX9_onlyColumn_46 : decode cX9_onlyColumn 46 = .ok (.aload_n 0, 1) := by decide +kernel
theorem dX9_onlyColumn_47 : decode cX9_onlyColumn 47 = .ok (.getfield 22, 3) := by decide +kernel
theorem dX9_onlyColumn_50 : decode cX9_onlyColumn 50 = .ok (.iload_n 2, 1) := by decide +kernel
theorem dX9_onlyColumn_51 : decode cX9_onlyColumn 51 = .ok (.iconst 1, 1) := by decide +kernel
theorem dX9_onlyColumn_52 : decode cX9_onlyColumn 52 = .ok (.iadd, 1) := by decide +kernel
theorem dX9_onlyColumn_53 : decode cX9_onlyColumn 53 = .ok (.iaload, 1) := by decide +kernel
theorem dX9_onlyColumn_54 : decode cX9_onlyColumn 54 = .ok (.bipush 97, 2) := by decide +kernel
theorem dX9_onlyColumn_56 : decode cX9_onlyColumn 56 = .ok (.isub, 1) := by decide +kernel
theorem dX9_onlyColumn_57 : decode cX9_onlyColumn 57 = .ok (.goto 5, 3) := by decide +kernel
theorem dX9_onlyColumn_60 : decode cX9_onlyColumn 60 = .ok (.ldc 74, 2) := by decide +kernel
theorem dX9_onlyColumn_62 : decode cX9_onlyColumn 62 = .ok (.istore_n 3, 1) := by decide +kernel
theorem dX9_onlyColumn_63 : decode cX9_onlyColumn 63 = .ok (.iload_n 3, 1) := by decide +kernel
theorem dX9_onlyColumn_64 : decode cX9_onlyColumn 64 = .ok (.ldc 74, 2) := by decide +kernel
theorem dX9_onlyColumn_66 : decode cX9_onlyColumn 66 = .ok (.if_icmp .eq 19, 3) := by decide +kernel
theorem dX9_onlyColumn_69 : decode cX9_onlyColumn 69 = .ok (.iload_n 1, 1) := by decide +kernel
theorem dX9_onlyColumn_70 : decode cX9_onlyColumn 70 = .ok (.ldc 74, 2) := by decide +kernel
theorem dX9_onlyColumn_72 : decode cX9_onlyColumn 72 = .ok (.if_icmp .eq 11, 3) := by decide +kernel
theorem dX9_onlyColumn_75 : decode cX9_onlyColumn 75 = .ok (.iload_n 1, 1) := by decide +kernel
theorem dX9_onlyColumn_76 : decode cX9_onlyColumn 76 = .ok (.iload_n 3, 1) := by decide +kernel
theorem dX9_onlyColumn_77 : decode cX9_onlyColumn 77 = .ok (.if_icmp .eq 6, 3) := by decide +kernel
theorem dX9_onlyColumn_80 : decode cX9_onlyColumn 80 = .ok (.ldc 74, 2) := by decide +kernel
theorem dX9_onlyColumn_82 : decode cX9_onlyColumn 82 = .ok (.ireturn, 1) := by decide +kernel
theorem dX9_onlyColumn_83 : decode cX9_onlyColumn 83 = .ok (.iload_n 3, 1) := by decide +kernel
theorem dX9_onlyColumn_84 : decode cX9_onlyColumn 84 = .ok (.istore_n 1, 1) := by decide +kernel
theorem dX9_onlyColumn_85 : decode cX9_onlyColumn 85 = .ok (.iinc 2 1, 3) := by decide +kernel
theorem dX9_onlyColumn_88 : decode cX9_onlyColumn 88 = .ok (.goto (-83), 3) := by decide +kernel
theorem dX9_onlyColumn_91 : decode cX9_onlyColumn 91 = .ok (.iload_n 1, 1) := by decide +kernel
theorem dX9_onlyColumn_92 : decode cX9_onlyColumn 92 = .ok (.ireturn, 1) := by decide +kernel
theorem dX9_mayOf_0 : decode cX9_mayOf 0 = .ok (.aload_n 0, 1) := by decide +kernel
theorem dX9_mayOf_1 : decode cX9_mayOf 1 = .ok (.getfield 13, 3) := by decide +kernel
theorem dX9_mayOf_4 : decode cX9_mayOf 4 = .ok (.iload_n 1, 1) := by decide +kernel
theorem dX9_mayOf_5 : decode cX9_mayOf 5 = .ok (.iaload, 1) := by decide +kernel
theorem dX9_mayOf_6 : decode cX9_mayOf 6 = .ok (.ifCond .ne 5, 3) := by decide +kernel
theorem dX9_mayOf_9 : decode cX9_mayOf 9 = .ok (.iconst 0, 1) := by decide +kernel
theorem dX9_mayOf_10 : decode cX9_mayOf 10 = .ok (.ireturn, 1) := by decide +kernel
theorem dX9_mayOf_11 : decode cX9_mayOf 11 = .ok (.aload_n 0, 1) := by decide +kernel
theorem dX9_mayOf_12 : decode cX9_mayOf 12 = .ok (.invokevirtual 174, 3) := by decide +kernel
theorem dX9_mayOf_15 : decode cX9_mayOf 15 = .ok (.istore_n 2, 1) := by decide +kernel
theorem dX9_mayOf_16 : decode cX9_mayOf 16 = .ok (.bipush 12, 2) := by decide +kernel
theorem dX9_mayOf_18 : decode cX9_mayOf 18 = .ok (.iconst 4, 1) := by decide +kernel
theorem dX9_mayOf_19 : decode cX9_mayOf 19 = .ok (.iload_n 1, 1) := by decide +kernel
theorem dX9_mayOf_20 : decode cX9_mayOf 20 = .ok (.imul, 1) := by decide +kernel
theorem dX9_mayOf_21 : decode cX9_mayOf 21 = .ok (.iload_n 2, 1) := by decide +kernel
theorem dX9_mayOf_22 : decode cX9_mayOf 22 = .ok (.iadd, 1) := by decide +kernel
theorem dX9_mayOf_23 : decode cX9_mayOf 23 = .ok (.imul, 1) := by decide +kernel
theorem dX9_mayOf_24 : decode cX9_mayOf 24 = .ok (.istore_n 3, 1) := by decide +kernel
theorem dX9_mayOf_25 : decode cX9_mayOf 25 = .ok (.iload_n 2, 1) := by decide +kernel
theorem dX9_mayOf_26 : decode cX9_mayOf 26 = .ok (.ldc 74, 2) := by decide +kernel
theorem dX9_mayOf_28 : decode cX9_mayOf 28 = .ok (.if_icmp .eq 14, 3) := by decide +kernel
theorem dX9_mayOf_31 : decode cX9_mayOf 31 = .ok (.aload_n 0, 1) := by decide +kernel
theorem dX9_mayOf_32 : decode cX9_mayOf 32 = .ok (.getfield 16, 3) := by decide +kernel
theorem dX9_mayOf_35 : decode cX9_mayOf 35 = .ok (.iload_n 3, 1) := by decide +kernel
theorem dX9_mayOf_36 : decode cX9_mayOf 36 = .ok (.iconst 3, 1) := by decide +kernel
theorem dX9_mayOf_37 : decode cX9_mayOf 37 = .ok (.iadd, 1) := by decide +kernel
theorem dX9_mayOf_38 : decode cX9_mayOf 38 = .ok (.iaload, 1) := by decide +kernel
theorem dX9_mayOf_39 : decode cX9_mayOf 39 = .ok (.ifCond .ge 15, 3) := by decide +kernel
theorem dX9_mayOf_42 : decode cX9_mayOf 42 = .ok (.aload_n 0, 1) := by decide +kernel
theorem dX9_mayOf_43 : decode cX9_mayOf 43 = .ok (.iload_n 1, 1) := by decide +kernel
theorem dX9_mayOf_44 : decode cX9_mayOf 44 = .ok (.invokevirtual 171, 3) := by decide +kernel
theorem dX9_mayOf_47 : decode cX9_mayOf 47 = .ok (.aload_n 0, 1) := by decide +kernel
theorem dX9_mayOf_48 : decode cX9_mayOf 48 = .ok (.getfield 46, 3) := by decide +kernel
theorem dX9_mayOf_51 : decode cX9_mayOf 51 = .ok (.iconst 0, 1) := by decide +kernel
theorem dX9_mayOf_52 : decode cX9_mayOf 52 = .ok (.iaload, 1) := by decide +kernel
theorem dX9_mayOf_53 : decode cX9_mayOf 53 = .ok (.ireturn, 1) := by decide +kernel
theorem dX9_mayOf_54 : decode cX9_mayOf 54 = .ok (.iconst 0, 1) := by decide +kernel
theorem dX9_mayOf_55 : decode cX9_mayOf 55 = .ok (.istore 4, 2) := by decide +kernel
theorem dX9_mayOf_57 : decode cX9_mayOf 57 = .ok (.iconst 0, 1) := by decide +kernel
theorem dX9_mayOf_58 : decode cX9_mayOf 58 = .ok (.istore 5, 2) := by decide +kernel
theorem dX9_mayOf_60 : decode cX9_mayOf 60 = .ok (.iload 5, 2) := by decide +kernel
theorem dX9_mayOf_62 : decode cX9_mayOf 62 = .ok (.aload_n 0, 1) := by decide +kernel
theorem dX9_mayOf_63 : decode cX9_mayOf 63 = .ok (.getfield 16, 3) := by decide +kernel
theorem dX9_mayOf_66 : decode cX9_mayOf 66 = .ok (.iload_n 3, 1) := by decide +kernel
theorem dX9_mayOf_67 : decode cX9_mayOf 67 = .ok (.iconst 3, 1) := by decide +kernel
theorem dX9_mayOf_68 : decode cX9_mayOf 68 = .ok (.iadd, 1) := by decide +kernel
theorem dX9_mayOf_69 : decode cX9_mayOf 69 = .ok (.iaload, 1) := by decide +kernel
theorem dX9_mayOf_70 : decode cX9_mayOf 70 = .ok (.if_icmp .gt 109, 3) := by decide +kernel
theorem dX9_mayOf_73 : decode cX9_mayOf 73 = .ok (.iload 5, 2) := by decide +kernel
theorem dX9_mayOf_75 : decode cX9_mayOf 75 = .ok (.aload_n 0, 1) := by decide +kernel
theorem dX9_mayOf_76 : decode cX9_mayOf 76 = .ok (.getfield 16, 3) := by decide +kernel
theorem dX9_mayOf_79 : decode cX9_mayOf 79 = .ok (.iload_n 3, 1) := by decide +kernel
theorem dX9_mayOf_80 : decode cX9_mayOf 80 = .ok (.iconst 3, 1) := by decide +kernel
theorem dX9_mayOf_81 : decode cX9_mayOf 81 = .ok (.iadd, 1) := by decide +kernel
theorem dX9_mayOf_82 : decode cX9_mayOf 82 = .ok (.iaload, 1) := by decide +kernel
theorem dX9_mayOf_83 : decode cX9_mayOf 83 = .ok (.if_icmp .ne 7, 3) := by decide +kernel
theorem dX9_mayOf_86 : decode cX9_mayOf 86 = .ok (.iconst 1, 1) := by decide +kernel
theorem dX9_mayOf_87 : decode cX9_mayOf 87 = .ok (.goto 4, 3) := by decide +kernel
theorem dX9_mayOf_90 : decode cX9_mayOf 90 = .ok (.iconst 0, 1) := by decide +kernel
theorem dX9_mayOf_91 : decode cX9_mayOf 91 = .ok (.istore 6, 2) := by decide +kernel
theorem dX9_mayOf_93 : decode cX9_mayOf 93 = .ok (.iload 6, 2) := by decide +kernel
theorem dX9_mayOf_95 : decode cX9_mayOf 95 = .ok (.ifCond .eq 17, 3) := by decide +kernel
theorem dX9_mayOf_98 : decode cX9_mayOf 98 = .ok (.aload_n 0, 1) := by decide +kernel
theorem dX9_mayOf_99 : decode cX9_mayOf 99 = .ok (.getfield 16, 3) := by decide +kernel
theorem dX9_mayOf_102 : decode cX9_mayOf 102 = .ok (.iload_n 3, 1) := by decide +kernel
theorem dX9_mayOf_103 : decode cX9_mayOf 103 = .ok (.iconst 2, 1) := by decide +kernel
theorem dX9_mayOf_104 : decode cX9_mayOf 104 = .ok (.iadd, 1) := by decide +kernel
theorem dX9_mayOf_105 : decode cX9_mayOf 105 = .ok (.iaload, 1) := by decide +kernel
theorem dX9_mayOf_106 : decode cX9_mayOf 106 = .ok (.ifCond .le 67, 3) := by decide +kernel
theorem dX9_mayOf_109 : decode cX9_mayOf 109 = .ok (.goto 18, 3) := by decide +kernel
theorem dX9_mayOf_112 : decode cX9_mayOf 112 = .ok (.aload_n 0, 1) := by decide +kernel
theorem dX9_mayOf_113 : decode cX9_mayOf 113 = .ok (.getfield 16, 3) := by decide +kernel
theorem dX9_mayOf_116 : decode cX9_mayOf 116 = .ok (.iload_n 3, 1) := by decide +kernel
theorem dX9_mayOf_117 : decode cX9_mayOf 117 = .ok (.bipush 8, 2) := by decide +kernel
theorem dX9_mayOf_119 : decode cX9_mayOf 119 = .ok (.iadd, 1) := by decide +kernel
theorem dX9_mayOf_120 : decode cX9_mayOf 120 = .ok (.iload 5, 2) := by decide +kernel
theorem dX9_mayOf_122 : decode cX9_mayOf 122 = .ok (.iadd, 1) := by decide +kernel
theorem dX9_mayOf_123 : decode cX9_mayOf 123 = .ok (.iaload, 1) := by decide +kernel
theorem dX9_mayOf_124 : decode cX9_mayOf 124 = .ok (.ifCond .le 49, 3) := by decide +kernel
theorem dX9_mayOf_127 : decode cX9_mayOf 127 = .ok (.aload_n 0, 1) := by decide +kernel
theorem dX9_mayOf_128 : decode cX9_mayOf 128 = .ok (.getfield 43, 3) := by decide +kernel
theorem dX9_mayOf_131 : decode cX9_mayOf 131 = .ok (.iload_n 2, 1) := by decide +kernel
theorem dX9_mayOf_132 : decode cX9_mayOf 132 = .ok (.iload 6, 2) := by decide +kernel
theorem dX9_mayOf_134 : decode cX9_mayOf 134 = .ok (.ifCond .eq 9, 3) := by decide +kernel
theorem dX9_mayOf_137 : decode cX9_mayOf 137 = .ok (.sipush 1000, 3) := by decide +kernel
theorem dX9_mayOf_140 : decode cX9_mayOf 140 = .ok (.goto 14, 3) := by decide +kernel
theorem dX9_mayOf_143 : decode cX9_mayOf 143 = .ok (.aload_n 0, 1) := by decide +kernel
theorem dX9_mayOf_144 : decode cX9_mayOf 144 = .ok (.getfield 16, 3) := by decide +kernel
theorem dX9_mayOf_147 : decode cX9_mayOf 147 = .ok (.iload_n 3, 1) := by decide +kernel
theorem dX9_mayOf_148 : decode cX9_mayOf 148 = .ok (.iconst 4, 1) := by decide +kernel
theorem dX9_mayOf_149 : decode cX9_mayOf 149 = .ok (.iadd, 1) := by decide +kernel
theorem dX9_mayOf_150 : decode cX9_mayOf 150 = .ok (.iload 5, 2) := by decide +kernel
theorem dX9_mayOf_152 : decode cX9_mayOf 152 = .ok (.iadd, 1) := by decide +kernel
theorem dX9_mayOf_153 : decode cX9_mayOf 153 = .ok (.iaload, 1) := by decide +kernel
theorem dX9_mayOf_154 : decode cX9_mayOf 154 = .ok (.iastore, 1) := by decide +kernel
theorem dX9_mayOf_155 : decode cX9_mayOf 155 = .ok (.aload_n 0, 1) := by decide +kernel
theorem dX9_mayOf_156 : decode cX9_mayOf 156 = .ok (.invokevirtual 154, 3) := by decide +kernel
theorem dX9_mayOf_159 : decode cX9_mayOf 159 = .ok (.iload 4, 2) := by decide +kernel
theorem dX9_mayOf_161 : decode cX9_mayOf 161 = .ok (.aload_n 0, 1) := by decide +kernel
theorem dX9_mayOf_162 : decode cX9_mayOf 162 = .ok (.getfield 40, 3) := by decide +kernel
theorem dX9_mayOf_165 : decode cX9_mayOf 165 = .ok (.iconst 0, 1) := by decide +kernel
theorem dX9_mayOf_166 : decode cX9_mayOf 166 = .ok (.iaload, 1) := by decide +kernel
theorem dX9_mayOf_167 : decode cX9_mayOf 167 = .ok (.invokestatic 166, 3) := by decide +kernel
theorem dX9_mayOf_170 : decode cX9_mayOf 170 = .ok (.ior, 1) := by decide +kernel
theorem dX9_mayOf_171 : decode cX9_mayOf 171 = .ok (.istore 4, 2) := by decide +kernel
theorem dX9_mayOf_173 : decode cX9_mayOf 173 = .ok (.iinc 5 1, 3) := by decide +kernel
theorem dX9_mayOf_176 : decode cX9_mayOf 176 = .ok (.goto (-116), 3) := by decide +kernel
theorem dX9_mayOf_179 : decode cX9_mayOf 179 = .ok (.iload 4, 2) := by decide +kernel
theorem dX9_mayOf_181 : decode cX9_mayOf 181 = .ok (.ireturn, 1) := by decide +kernel
theorem dX9_verdictOf_0 : decode cX9_verdictOf 0 = .ok (.aload_n 0, 1) := by decide +kernel
theorem dX9_verdictOf_1 : decode cX9_verdictOf 1 = .ok (.iload_n 1, 1) := by decide +kernel
theorem dX9_verdictOf_2 : decode cX9_verdictOf 2 = .ok (.invokevirtual 177, 3) := by decide +kernel
theorem dX9_verdictOf_5 : decode cX9_verdictOf 5 = .ok (.istore_n 2, 1) := by decide +kernel
theorem dX9_verdictOf_6 : decode cX9_verdictOf 6 = .ok (.iload_n 2, 1) := by decide +kernel
theorem dX9_verdictOf_7 : decode cX9_verdictOf 7 = .ok (.iconst 1, 1) := by decide +kernel
theorem dX9_verdictOf_8 : decode cX9_verdictOf 8 = .ok (.iand, 1) := by decide +kernel
theorem dX9_verdictOf_9 : decode cX9_verdictOf 9 = .ok (.ifCond .ne 7, 3) := by decide +kernel
theorem dX9_verdictOf_12 : decode cX9_verdictOf 12 = .ok (.iconst 0, 1) := by decide +kernel
theorem dX9_verdictOf_13 : decode cX9_verdictOf 13 = .ok (.goto 13, 3) := by decide +kernel
theorem dX9_verdictOf_16 : decode cX9_verdictOf 16 = .ok (.iload_n 2, 1) := by decide +kernel
theorem dX9_verdictOf_17 : decode cX9_verdictOf 17 = .ok (.iconst 1, 1) := by decide +kernel
theorem dX9_verdictOf_18 : decode cX9_verdictOf 18 = .ok (.if_icmp .ne 7, 3) := by decide +kernel
theorem dX9_verdictOf_21 : decode cX9_verdictOf 21 = .ok (.iconst 1, 1) := by decide +kernel
theorem dX9_verdictOf_22 : decode cX9_verdictOf 22 = .ok (.goto 4, 3) := by decide +kernel
theorem dX9_verdictOf_25 : decode cX9_verdictOf 25 = .ok (.iconst 2, 1) := by decide +kernel
theorem dX9_verdictOf_26 : decode cX9_verdictOf 26 = .ok (.ireturn, 1) := by decide +kernel
theorem dX9_verdict_0 : decode cX9_verdict 0 = .ok (.iload_n 1, 1) := by decide +kernel
theorem dX9_verdict_1 : decode cX9_verdict 1 = .ok (.invokestatic 70, 3) := by decide +kernel
theorem dX9_verdict_4 : decode cX9_verdict 4 = .ok (.ifCond .ne 5, 3) := by decide +kernel
theorem dX9_verdict_7 : decode cX9_verdict 7 = .ok (.iconst (-1), 1) := by decide +kernel
theorem dX9_verdict_8 : decode cX9_verdict 8 = .ok (.ireturn, 1) := by decide +kernel
theorem dX9_verdict_9 : decode cX9_verdict 9 = .ok (.iload_n 2, 1) := by decide +kernel
theorem dX9_verdict_10 : decode cX9_verdict 10 = .ok (.iconst 0, 1) := by decide +kernel
theorem dX9_verdict_11 : decode cX9_verdict 11 = .ok (.iconst 1, 1) := by decide +kernel
theorem dX9_verdict_12 : decode cX9_verdict 12 = .ok (.invokestatic 66, 3) := by decide +kernel
theorem dX9_verdict_15 : decode cX9_verdict 15 = .ok (.ifCond .ne 6, 3) := by decide +kernel
theorem dX9_verdict_18 : decode cX9_verdict 18 = .ok (.bipush (-2), 2) := by decide +kernel
theorem dX9_verdict_20 : decode cX9_verdict 20 = .ok (.ireturn, 1) := by decide +kernel
theorem dX9_verdict_21 : decode cX9_verdict 21 = .ok (.aload_n 0, 1) := by decide +kernel
theorem dX9_verdict_22 : decode cX9_verdict 22 = .ok (.invokevirtual 116, 3) := by decide +kernel
theorem dX9_verdict_25 : decode cX9_verdict 25 = .ok (.ldc 74, 2) := by decide +kernel
theorem dX9_verdict_27 : decode cX9_verdict 27 = .ok (.if_icmp .eq 6, 3) := by decide +kernel
theorem dX9_verdict_30 : decode cX9_verdict 30 = .ok (.bipush (-5), 2) := by decide +kernel
theorem dX9_verdict_32 : decode cX9_verdict 32 = .ok (.ireturn, 1) := by decide +kernel
theorem dX9_verdict_33 : decode cX9_verdict 33 = .ok (.iload_n 2, 1) := by decide +kernel
theorem dX9_verdict_34 : decode cX9_verdict 34 = .ok (.ifCond .ne 11, 3) := by decide +kernel
theorem dX9_verdict_37 : decode cX9_verdict 37 = .ok (.aload_n 0, 1) := by decide +kernel
theorem dX9_verdict_38 : decode cX9_verdict 38 = .ok (.iload_n 1, 1) := by decide +kernel
theorem dX9_verdict_39 : decode cX9_verdict 39 = .ok (.invokevirtual 180, 3) := by decide +kernel
theorem dX9_verdict_42 : decode cX9_verdict 42 = .ok (.goto 8, 3) := by decide +kernel
theorem dX9_verdict_45 : decode cX9_verdict 45 = .ok (.aload_n 0, 1) := by decide +kernel
theorem dX9_verdict_46 : decode cX9_verdict 46 = .ok (.iload_n 1, 1) := by decide +kernel
theorem dX9_verdict_47 : decode cX9_verdict 47 = .ok (.invokevirtual 177, 3) := by decide +kernel
theorem dX9_verdict_50 : decode cX9_verdict 50 = .ok (.ireturn, 1) := by decide +kernel
theorem dX9_isLike_0 : decode cX9_isLike 0 = .ok (.iconst 1, 1) := by decide +kernel
theorem dX9_isLike_1 : decode cX9_isLike 1 = .ok (.istore 5, 2) := by decide +kernel
theorem dX9_isLike_3 : decode cX9_isLike 3 = .ok (.iconst 0, 1) := by decide +kernel
theorem dX9_isLike_4 : decode cX9_isLike 4 = .ok (.istore 6, 2) := by decide +kernel
theorem dX9_isLike_6 : decode cX9_isLike 6 = .ok (.iload 6, 2) := by decide +kernel
theorem dX9_isLike_8 : decode cX9_isLike 8 = .ok (.iconst 4, 1) := by decide +kernel
theorem dX9_isLike_9 : decode cX9_isLike 9 = .ok (.if_icmp .ge 41, 3) := by decide +kernel
theorem dX9_isLike_12 : decode cX9_isLike 12 = .ok (.iload 5, 2) := by decide +kernel
theorem dX9_isLike_14 : decode cX9_isLike 14 = .ok (.ifCond .eq 27, 3) := by decide +kernel
theorem dX9_isLike_17 : decode cX9_isLike 17 = .ok (.aload_n 0, 1) := by decide +kernel
theorem dX9_isLike_18 : decode cX9_isLike 18 = .ok (.iload_n 1, 1) := by decide +kernel
theorem dX9_isLike_19 : decode cX9_isLike 19 = .ok (.iload_n 2, 1) := by decide +kernel
theorem dX9_isLike_20 : decode cX9_isLike 20 = .ok (.iload 6, 2) := by decide +kernel
theorem dX9_isLike_22 : decode cX9_isLike 22 = .ok (.invokevirtual 87, 3) := by decide +kernel
theorem dX9_isLike_25 : decode cX9_isLike 25 = .ok (.aload_n 0, 1) := by decide +kernel
theorem dX9_isLike_26 : decode cX9_isLike 26 = .ok (.iload_n 3, 1) := by decide +kernel
theorem dX9_isLike_27 : decode cX9_isLike 27 = .ok (.iload 4, 2) := by decide +kernel
theorem dX9_isLike_29 : decode cX9_isLike 29 = .ok (.iload 6, 2) := by decide +kernel
theorem dX9_isLike_31 : decode cX9_isLike 31 = .ok (.invokevirtual 87, 3) := by decide +kernel
theorem dX9_isLike_34 : decode cX9_isLike 34 = .ok (.if_icmp .ne 7, 3) := by decide +kernel
theorem dX9_isLike_37 : decode cX9_isLike 37 = .ok (.iconst 1, 1) := by decide +kernel
theorem dX9_isLike_38 : decode cX9_isLike 38 = .ok (.goto 4, 3) := by decide +kernel
theorem dX9_isLike_41 : decode cX9_isLike 41 = .ok (.iconst 0, 1) := by decide +kernel
theorem dX9_isLike_42 : decode cX9_isLike 42 = .ok (.istore 5, 2) := by decide +kernel
theorem dX9_isLike_44 : decode cX9_isLike 44 = .ok (.iinc 6 1, 3) := by decide +kernel
theorem dX9_isLike_47 : decode cX9_isLike 47 = .ok (.goto (-41), 3) := by decide +kernel
theorem dX9_isLike_50 : decode cX9_isLike 50 = .ok (.iload 5, 2) := by decide +kernel
theorem dX9_isLike_52 : decode cX9_isLike 52 = .ok (.ireturn, 1) := by decide +kernel
theorem dX9_answer_0 : decode cX9_answer 0 = .ok (.iload_n 1, 1) := by decide +kernel
theorem dX9_answer_1 : decode cX9_answer 1 = .ok (.iconst 0, 1) := by decide +kernel
theorem dX9_answer_2 : decode cX9_answer 2 = .ok (.iconst 5, 1) := by decide +kernel
theorem dX9_answer_3 : decode cX9_answer 3 = .ok (.invokestatic 66, 3) := by decide +kernel
theorem dX9_answer_6 : decode cX9_answer 6 = .ok (.ifCond .ne 6, 3) := by decide +kernel
theorem dX9_answer_9 : decode cX9_answer 9 = .ok (.bipush (-2), 2) := by decide +kernel
theorem dX9_answer_11 : decode cX9_answer 11 = .ok (.ireturn, 1) := by decide +kernel
theorem dX9_answer_12 : decode cX9_answer 12 = .ok (.aload_n 0, 1) := by decide +kernel
theorem dX9_answer_13 : decode cX9_answer 13 = .ok (.invokevirtual 116, 3) := by decide +kernel
theorem dX9_answer_16 : decode cX9_answer 16 = .ok (.ldc 74, 2) := by decide +kernel
theorem dX9_answer_18 : decode cX9_answer 18 = .ok (.if_icmp .eq 6, 3) := by decide +kernel
theorem dX9_answer_21 : decode cX9_answer 21 = .ok (.bipush (-5), 2) := by decide +kernel
theorem dX9_answer_23 : decode cX9_answer 23 = .ok (.ireturn, 1) := by decide +kernel
theorem dX9_answer_24 : decode cX9_answer 24 = .ok (.iconst 0, 1) := by decide +kernel
theorem dX9_answer_25 : decode cX9_answer 25 = .ok (.istore_n 2, 1) := by decide +kernel
theorem dX9_answer_26 : decode cX9_answer 26 = .ok (.iconst 0, 1) := by decide +kernel
theorem dX9_answer_27 : decode cX9_answer 27 = .ok (.istore_n 3, 1) := by decide +kernel
theorem dX9_answer_28 : decode cX9_answer 28 = .ok (.iconst 0, 1) := by decide +kernel
theorem dX9_answer_29 : decode cX9_answer 29 = .ok (.istore 4, 2) := by decide +kernel
theorem dX9_answer_31 : decode cX9_answer 31 = .ok (.iconst 0, 1) := by decide +kernel
theorem dX9_answer_32 : decode cX9_answer 32 = .ok (.istore 5, 2) := by decide +kernel
theorem dX9_answer_34 : decode cX9_answer 34 = .ok (.iconst 0, 1) := by decide +kernel
theorem dX9_answer_35 : decode cX9_answer 35 = .ok (.istore 6, 2) := by decide +kernel
theorem dX9_answer_37 : decode cX9_answer 37 = .ok (.iload 6, 2) := by decide +kernel
theorem dX9_answer_39 : decode cX9_answer 39 = .ok (.bipush 6, 2) := by decide +kernel
theorem dX9_answer_41 : decode cX9_answer 41 = .ok (.if_icmp .ge 190, 3) := by decide +kernel
theorem dX9_answer_44 : decode cX9_answer 44 = .ok (.aload_n 0, 1) := by decide +kernel
theorem dX9_answer_45 : decode cX9_answer 45 = .ok (.iload 6, 2) := by decide +kernel
theorem dX9_answer_47 : decode cX9_answer 47 = .ok (.invokevirtual 180, 3) := by decide +kernel
theorem dX9_answer_50 : decode cX9_answer 50 = .ok (.istore 7, 2) := by decide +kernel
theorem dX9_answer_52 : decode cX9_answer 52 = .ok (.iload 5, 2) := by decide +kernel
theorem dX9_answer_54 : decode cX9_answer 54 = .ok (.iload 7, 2) := by decide +kernel
theorem dX9_answer_56 : decode cX9_answer 56 = .ok (.iload_n 1, 1) := by decide +kernel
theorem dX9_answer_57 : decode cX9_answer 57 = .ok (.iconst 3, 1) := by decide +kernel
theorem dX9_answer_58 : decode cX9_answer 58 = .ok (.isub, 1) := by decide +kernel
theorem dX9_answer_59 : decode cX9_answer 59 = .ok (.if_icmp .ne 10, 3) := by decide +kernel
theorem dX9_answer_62 : decode cX9_answer 62 = .ok (.iconst 1, 1) := by decide +kernel
theorem dX9_answer_63 : decode cX9_answer 63 = .ok (.iload 6, 2) := by decide +kernel
theorem dX9_answer_65 : decode cX9_answer 65 = .ok (.ishl, 1) := by decide +kernel
theorem dX9_answer_66 : decode cX9_answer 66 = .ok (.goto 4, 3) := by decide +kernel
theorem dX9_answer_69 : decode cX9_answer 69 = .ok (.iconst 0, 1) := by decide +kernel
theorem dX9_answer_70 : decode cX9_answer 70 = .ok (.ior, 1) := by decide +kernel
theorem dX9_answer_71 : decode cX9_answer 71 = .ok (.istore 5, 2) := by decide +kernel
theorem dX9_answer_73 : decode cX9_answer 73 = .ok (.iload 4, 2) := by decide +kernel
theorem dX9_answer_75 : decode cX9_answer 75 = .ok (.iload 7, 2) := by decide +kernel
theorem dX9_answer_77 : decode cX9_answer 77 = .ok (.iconst 2, 1) := by decide +kernel
theorem dX9_answer_78 : decode cX9_answer 78 = .ok (.if_icmp .ne 13, 3) := by decide +kernel
theorem dX9_answer_81 : decode cX9_answer 81 = .ok (.aload_n 0, 1) := by decide +kernel
theorem dX9_answer_82 : decode cX9_answer 82 = .ok (.getfield 13, 3) := by decide +kernel
theorem dX9_answer_85 : decode cX9_answer 85 = .ok (.iload 6, 2) := by decide +kernel
theorem dX9_answer_87 : decode cX9_answer 87 = .ok (.iaload, 1) := by decide +kernel
theorem dX9_answer_88 : decode cX9_answer 88 = .ok (.goto 4, 3) := by decide +kernel
theorem dX9_answer_91 : decode cX9_answer 91 = .ok (.iconst 0, 1) := by decide +kernel
theorem dX9_answer_92 : decode cX9_answer 92 = .ok (.iadd, 1) := by decide +kernel
theorem dX9_answer_93 : decode cX9_answer 93 = .ok (.istore 4, 2) := by decide +kernel
theorem dX9_answer_95 : decode cX9_answer 95 = .ok (.iconst 0, 1) := by decide +kernel
theorem dX9_answer_96 : decode cX9_answer 96 = .ok (.istore 8, 2) := by decide +kernel
theorem dX9_answer_98 : decode cX9_answer 98 = .ok (.iload 8, 2) := by decide +kernel
theorem dX9_answer_100 : decode cX9_answer 100 = .ok (.aload_n 0, 1) := by decide +kernel
theorem dX9_answer_101 : decode cX9_answer 101 = .ok (.getfield 13, 3) := by decide +kernel
theorem dX9_answer_104 : decode cX9_answer 104 = .ok (.iload 6, 2) := by decide +kernel
theorem dX9_answer_106 : decode cX9_answer 106 = .ok (.iaload, 1) := by decide +kernel
theorem dX9_answer_107 : decode cX9_answer 107 = .ok (.if_icmp .ge 118, 3) := by decide +kernel
theorem dX9_answer_110 : decode cX9_answer 110 = .ok (.aload_n 0, 1) := by decide +kernel
theorem dX9_answer_111 : decode cX9_answer 111 = .ok (.iload 6, 2) := by decide +kernel
theorem dX9_answer_113 : decode cX9_answer 113 = .ok (.iload 8, 2) := by decide +kernel
theorem dX9_answer_115 : decode cX9_answer 115 = .ok (.invokevirtual 157, 3) := by decide +kernel
theorem dX9_answer_118 : decode cX9_answer 118 = .ok (.iconst 1, 1) := by decide +kernel
theorem dX9_answer_119 : decode cX9_answer 119 = .ok (.if_icmp .ne 100, 3) := by decide +kernel
theorem dX9_answer_122 : decode cX9_answer 122 = .ok (.iinc 2 1, 3) := by decide +kernel
theorem dX9_answer_125 : decode cX9_answer 125 = .ok (.iconst 1, 1) := by decide +kernel
theorem dX9_answer_126 : decode cX9_answer 126 = .ok (.istore 9, 2) := by decide +kernel
theorem dX9_answer_128 : decode cX9_answer 128 = .ok (.iconst 0, 1) := by decide +kernel
theorem dX9_answer_129 : decode cX9_answer 129 = .ok (.istore 10, 2) := by decide +kernel
theorem dX9_answer_131 : decode cX9_answer 131 = .ok (.iload 10, 2) := by decide +kernel
theorem dX9_answer_133 : decode cX9_answer 133 = .ok (.iload 6, 2) := by decide +kernel
theorem dX9_answer_135 : decode cX9_answer 135 = .ok (.if_icmp .gt 71, 3) := by decide +kernel
theorem dX9_answer_138 : decode cX9_answer 138 = .ok (.iconst 0, 1) := by decide +kernel
theorem dX9_answer_139 : decode cX9_answer 139 = .ok (.istore 11, 2) := by decide +kernel
theorem dX9_answer_141 : decode cX9_answer 141 = .ok (.iload 11, 2) := by decide +kernel
theorem dX9_answer_143 : decode cX9_answer 143 = .ok (.aload_n 0, 1) := by decide +kernel
theorem dX9_answer_144 : decode cX9_answer 144 = .ok (.getfield 13, 3) := by decide +kernel
theorem dX9_answer_147 : decode cX9_answer 147 = .ok (.iload 10, 2) := by decide +kernel
theorem dX9_answer_149 : decode cX9_answer 149 = .ok (.iaload, 1) := by decide +kernel
theorem dX9_answer_150 : decode cX9_answer 150 = .ok (.if_icmp .ge 50, 3) := by decide +kernel
theorem dX9_answer_153 : decode cX9_answer 153 = .ok (.iload 10, 2) := by decide +kernel
theorem dX9_answer_155 : decode cX9_answer 155 = .ok (.iload 6, 2) := by decide +kernel
theorem dX9_answer_157 : decode cX9_answer 157 = .ok (.if_icmp .lt 10, 3) := by decide +kernel
theorem dX9_answer_160 : decode cX9_answer 160 = .ok (.iload 11, 2) := by decide +kernel
theorem dX9_answer_162 : decode cX9_answer 162 = .ok (.iload 8, 2) := by decide +kernel
theorem dX9_answer_164 : decode cX9_answer 164 = .ok (.if_icmp .ge 36, 3) := by decide +kernel
theorem dX9_answer_167 : decode cX9_answer 167 = .ok (.iload 9, 2) := by decide +kernel
theorem dX9_answer_169 : decode cX9_answer 169 = .ok (.ifCond .eq 22, 3) := by decide +kernel
theorem dX9_answer_172 : decode cX9_answer 172 = .ok (.aload_n 0, 1) := by decide +kernel
theorem dX9_answer_173 : decode cX9_answer 173 = .ok (.iload 6, 2) := by decide +kernel
theorem dX9_answer_175 : decode cX9_answer 175 = .ok (.iload 8, 2) := by decide +kernel
theorem dX9_answer_177 : decode cX9_answer 177 = .ok (.iload 10, 2) := by decide +kernel
theorem dX9_answer_179 : decode cX9_answer 179 = .ok (.iload 11, 2) := by decide +kernel
theorem dX9_answer_181 : decode cX9_answer 181 = .ok (.invokevirtual 183, 3) := by decide +kernel
theorem dX9_answer_184 : decode cX9_answer 184 = .ok (.ifCond .ne 7, 3) := by decide +kernel
theorem dX9_answer_187 : decode cX9_answer 187 = .ok (.iconst 1, 1) := by decide +kernel
theorem dX9_answer_188 : decode cX9_answer 188 = .ok (.goto 4, 3) := by decide +kernel
theorem dX9_answer_191 : decode cX9_answer 191 = .ok (.iconst 0, 1) := by decide +kernel
theorem dX9_answer_192 : decode cX9_answer 192 = .ok (.istore 9, 2) := by decide +kernel
theorem dX9_answer_194 : decode cX9_answer 194 = .ok (.iinc 11 1, 3) := by decide +kernel
theorem dX9_answer_197 : decode cX9_answer 197 = .ok (.goto (-56), 3) := by decide +kernel
theorem dX9_answer_200 : decode cX9_answer 200 = .ok (.iinc 10 1, 3) := by decide +kernel
theorem dX9_answer_203 : decode cX9_answer 203 = .ok (.goto (-72), 3) := by decide +kernel
theorem dX9_answer_206 : decode cX9_answer 206 = .ok (.iload_n 3, 1) := by decide +kernel
theorem dX9_answer_207 : decode cX9_answer 207 = .ok (.iload 9, 2) := by decide +kernel
theorem dX9_answer_209 : decode cX9_answer 209 = .ok (.ifCond .eq 7, 3) := by decide +kernel
theorem dX9_answer_212 : decode cX9_answer 212 = .ok (.iconst 1, 1) := by decide +kernel
theorem dX9_answer_213 : decode cX9_answer 213 = .ok (.goto 4, 3) := by decide +kernel
theorem dX9_answer_216 : decode cX9_answer 216 = .ok (.iconst 0, 1) := by decide +kernel
theorem dX9_answer_217 : decode cX9_answer 217 = .ok (.iadd, 1) := by decide +kernel
theorem dX9_answer_218 : decode cX9_answer 218 = .ok (.istore_n 3, 1) := by decide +kernel
theorem dX9_answer_219 : decode cX9_answer 219 = .ok (.iinc 8 1, 3) := by decide +kernel
theorem dX9_answer_222 : decode cX9_answer 222 = .ok (.goto (-124), 3) := by decide +kernel
theorem dX9_answer_225 : decode cX9_answer 225 = .ok (.iinc 6 1, 3) := by decide +kernel
theorem dX9_answer_228 : decode cX9_answer 228 = .ok (.goto (-191), 3) := by decide +kernel
theorem dX9_answer_231 : decode cX9_answer 231 = .ok (.iload_n 1, 1) := by decide +kernel
theorem dX9_answer_232 : decode cX9_answer 232 = .ok (.ifCond .ne 7, 3) := by decide +kernel
theorem dX9_answer_235 : decode cX9_answer 235 = .ok (.iload_n 2, 1) := by decide +kernel
theorem dX9_answer_236 : decode cX9_answer 236 = .ok (.goto 24, 3) := by decide +kernel
theorem dX9_answer_239 : decode cX9_answer 239 = .ok (.iload_n 1, 1) := by decide +kernel
theorem dX9_answer_240 : decode cX9_answer 240 = .ok (.iconst 1, 1) := by decide +kernel
theorem dX9_answer_241 : decode cX9_answer 241 = .ok (.if_icmp .ne 7, 3) := by decide +kernel
theorem dX9_answer_244 : decode cX9_answer 244 = .ok (.iload_n 3, 1) := by decide +kernel
theorem dX9_answer_245 : decode cX9_answer 245 = .ok (.goto 15, 3) := by decide +kernel
theorem dX9_answer_248 : decode cX9_answer 248 = .ok (.iload_n 1, 1) := by decide +kernel
theorem dX9_answer_249 : decode cX9_answer 249 = .ok (.iconst 2, 1) := by decide +kernel
theorem dX9_answer_250 : decode cX9_answer 250 = .ok (.if_icmp .ne 8, 3) := by decide +kernel
theorem dX9_answer_253 : decode cX9_answer 253 = .ok (.iload 4, 2) := by decide +kernel
theorem dX9_answer_255 : decode cX9_answer 255 = .ok (.goto 5, 3) := by decide +kernel
theorem dX9_answer_258 : decode cX9_answer 258 = .ok (.iload 5, 2) := by decide +kernel
theorem dX9_answer_260 : decode cX9_answer 260 = .ok (.ireturn, 1) := by decide +kernel
theorem dX9_total_0 : decode cX9_total 0 = .ok (.iload_n 1, 1) := by decide +kernel
theorem dX9_total_1 : decode cX9_total 1 = .ok (.invokestatic 97, 3) := by decide +kernel
theorem dX9_total_4 : decode cX9_total 4 = .ok (.ifCond .ne 6, 3) := by decide +kernel
theorem dX9_total_7 : decode cX9_total 7 = .ok (.ldc 100, 2) := by decide +kernel
theorem dX9_total_9 : decode cX9_total 9 = .ok (.ireturn, 1) := by decide +kernel
theorem dX9_total_10 : decode cX9_total 10 = .ok (.iload_n 2, 1) := by decide +kernel
theorem dX9_total_11 : decode cX9_total 11 = .ok (.iconst 0, 1) := by decide +kernel
theorem dX9_total_12 : decode cX9_total 12 = .ok (.iconst 4, 1) := by decide +kernel
theorem dX9_total_13 : decode cX9_total 13 = .ok (.invokestatic 66, 3) := by decide +kernel
theorem dX9_total_16 : decode cX9_total 16 = .ok (.ifCond .ne 6, 3) := by decide +kernel
theorem dX9_total_19 : decode cX9_total 19 = .ok (.ldc 101, 2) := by decide +kernel
theorem dX9_total_21 : decode cX9_total 21 = .ok (.ireturn, 1) := by decide +kernel
theorem dX9_total_22 : decode cX9_total 22 = .ok (.aload_n 0, 1) := by decide +kernel
theorem dX9_total_23 : decode cX9_total 23 = .ok (.invokevirtual 116, 3) := by decide +kernel
theorem dX9_total_26 : decode cX9_total 26 = .ok (.ldc 74, 2) := by decide +kernel
theorem dX9_total_28 : decode cX9_total 28 = .ok (.if_icmp .eq 6, 3) := by decide +kernel
theorem dX9_total_31 : decode cX9_total 31 = .ok (.ldc 169, 2) := by decide +kernel
theorem dX9_total_33 : decode cX9_total 33 = .ok (.ireturn, 1) := by decide +kernel
theorem dX9_total_34 : decode cX9_total 34 = .ok (.ldc 74, 2) := by decide +kernel
theorem dX9_total_36 : decode cX9_total 36 = .ok (.istore_n 3, 1) := by decide +kernel
theorem dX9_total_37 : decode cX9_total 37 = .ok (.ldc 74, 2) := by decide +kernel
theorem dX9_total_39 : decode cX9_total 39 = .ok (.istore 4, 2) := by decide +kernel
theorem dX9_total_41 : decode cX9_total 41 = .ok (.iconst 0, 1) := by decide +kernel
theorem dX9_total_42 : decode cX9_total 42 = .ok (.istore 5, 2) := by decide +kernel
theorem dX9_total_44 : decode cX9_total 44 = .ok (.iconst 0, 1) := by decide +kernel
theorem dX9_total_45 : decode cX9_total 45 = .ok (.istore 6, 2) := by decide +kernel
theorem dX9_total_47 : decode cX9_total 47 = .ok (.iconst 0, 1) := by decide +kernel
theorem dX9_total_48 : decode cX9_total 48 = .ok (.istore 7, 2) := by decide +kernel
theorem dX9_total_50 : decode cX9_total 50 = .ok (.iconst 0, 1) := by decide +kernel
theorem dX9_total_51 : decode cX9_total 51 = .ok (.istore 8, 2) := by decide +kernel
theorem dX9_total_53 : decode cX9_total 53 = .ok (.iload 8, 2) := by decide +kernel
theorem dX9_total_55 : decode cX9_total 55 = .ok (.bipush 6, 2) := by decide +kernel
theorem dX9_total_57 : decode cX9_total 57 = .ok (.if_icmp .ge 162, 3) := by decide +kernel
theorem dX9_total_60 : decode cX9_total 60 = .ok (.aload_n 0, 1) := by decide +kernel
theorem dX9_total_61 : decode cX9_total 61 = .ok (.iload 8, 2) := by decide +kernel
theorem dX9_total_63 : decode cX9_total 63 = .ok (.invokevirtual 180, 3) := by decide +kernel
theorem dX9_total_66 : decode cX9_total 66 = .ok (.istore 9, 2) := by decide +kernel
theorem dX9_total_68 : decode cX9_total 68 = .ok (.iload 7, 2) := by decide +kernel
theorem dX9_total_70 : decode cX9_total 70 = .ok (.iload 9, 2) := by decide +kernel
theorem dX9_total_72 : decode cX9_total 72 = .ok (.iconst 2, 1) := by decide +kernel
theorem dX9_total_73 : decode cX9_total 73 = .ok (.if_icmp .eq 19, 3) := by decide +kernel
theorem dX9_total_76 : decode cX9_total 76 = .ok (.iload 9, 2) := by decide +kernel
theorem dX9_total_78 : decode cX9_total 78 = .ok (.iconst 1, 1) := by decide +kernel
theorem dX9_total_79 : decode cX9_total 79 = .ok (.if_icmp .ne 23, 3) := by decide +kernel
theorem dX9_total_82 : decode cX9_total 82 = .ok (.aload_n 0, 1) := by decide +kernel
theorem dX9_total_83 : decode cX9_total 83 = .ok (.iload 8, 2) := by decide +kernel
theorem dX9_total_85 : decode cX9_total 85 = .ok (.iload_n 1, 1) := by decide +kernel
theorem dX9_total_86 : decode cX9_total 86 = .ok (.invokevirtual 94, 3) := by decide +kernel
theorem dX9_total_89 : decode cX9_total 89 = .ok (.ifCond .eq 13, 3) := by decide +kernel
theorem dX9_total_92 : decode cX9_total 92 = .ok (.aload_n 0, 1) := by decide +kernel
theorem dX9_total_93 : decode cX9_total 93 = .ok (.getfield 13, 3) := by decide +kernel
theorem dX9_total_96 : decode cX9_total 96 = .ok (.iload 8, 2) := by decide +kernel
theorem dX9_total_98 : decode cX9_total 98 = .ok (.iaload, 1) := by decide +kernel
theorem dX9_total_99 : decode cX9_total 99 = .ok (.goto 4, 3) := by decide +kernel
theorem dX9_total_102 : decode cX9_total 102 = .ok (.iconst 0, 1) := by decide +kernel
theorem dX9_total_103 : decode cX9_total 103 = .ok (.iadd, 1) := by decide +kernel
theorem dX9_total_104 : decode cX9_total 104 = .ok (.istore 7, 2) := by decide +kernel
theorem dX9_total_106 : decode cX9_total 106 = .ok (.iconst 0, 1) := by decide +kernel
theorem dX9_total_107 : decode cX9_total 107 = .ok (.istore 10, 2) := by decide +kernel
theorem dX9_total_109 : decode cX9_total 109 = .ok (.iload 10, 2) := by decide +kernel
theorem dX9_total_111 : decode cX9_total 111 = .ok (.aload_n 0, 1) := by decide +kernel
theorem dX9_total_112 : decode cX9_total 112 = .ok (.getfield 13, 3) := by decide +kernel
theorem dX9_total_115 : decode cX9_total 115 = .ok (.iload 8, 2) := by decide +kernel
theorem dX9_total_117 : decode cX9_total 117 = .ok (.iaload, 1) := by decide +kernel
theorem dX9_total_118 : decode cX9_total 118 = .ok (.if_icmp .ge 95, 3) := by decide +kernel
theorem dX9_total_121 : decode cX9_total 121 = .ok (.aload_n 0, 1) := by decide +kernel
theorem dX9_total_122 : decode cX9_total 122 = .ok (.iload 8, 2) := by decide +kernel
theorem dX9_total_124 : decode cX9_total 124 = .ok (.iload 10, 2) := by decide +kernel
theorem dX9_total_126 : decode cX9_total 126 = .ok (.invokevirtual 157, 3) := by decide +kernel
theorem dX9_total_129 : decode cX9_total 129 = .ok (.iconst 1, 1) := by decide +kernel
theorem dX9_total_130 : decode cX9_total 130 = .ok (.if_icmp .ne 77, 3) := by decide +kernel
theorem dX9_total_133 : decode cX9_total 133 = .ok (.aload_n 0, 1) := by decide +kernel
theorem dX9_total_134 : decode cX9_total 134 = .ok (.iload 8, 2) := by decide +kernel
theorem dX9_total_136 : decode cX9_total 136 = .ok (.iload 10, 2) := by decide +kernel
theorem dX9_total_138 : decode cX9_total 138 = .ok (.iload_n 1, 1) := by decide +kernel
theorem dX9_total_139 : decode cX9_total 139 = .ok (.invokevirtual 87, 3) := by decide +kernel
theorem dX9_total_142 : decode cX9_total 142 = .ok (.istore 11, 2) := by decide +kernel
theorem dX9_total_144 : decode cX9_total 144 = .ok (.iload 11, 2) := by decide +kernel
theorem dX9_total_146 : decode cX9_total 146 = .ok (.sipush 1000, 3) := by decide +kernel
theorem dX9_total_149 : decode cX9_total 149 = .ok (.if_icmp .ne 9, 3) := by decide +kernel
theorem dX9_total_152 : decode cX9_total 152 = .ok (.iinc 6 1, 3) := by decide +kernel
theorem dX9_total_155 : decode cX9_total 155 = .ok (.goto 52, 3) := by decide +kernel
theorem dX9_total_158 : decode cX9_total 158 = .ok (.iload_n 3, 1) := by decide +kernel
theorem dX9_total_159 : decode cX9_total 159 = .ok (.ldc 74, 2) := by decide +kernel
theorem dX9_total_161 : decode cX9_total 161 = .ok (.if_icmp .eq 9, 3) := by decide +kernel
theorem dX9_total_164 : decode cX9_total 164 = .ok (.iload 11, 2) := by decide +kernel
theorem dX9_total_166 : decode cX9_total 166 = .ok (.iload_n 3, 1) := by decide +kernel
theorem dX9_total_167 : decode cX9_total 167 = .ok (.if_icmp .ge 8, 3) := by decide +kernel
theorem dX9_total_170 : decode cX9_total 170 = .ok (.iload 11, 2) := by decide +kernel
theorem dX9_total_172 : decode cX9_total 172 = .ok (.goto 4, 3) := by decide +kernel
theorem dX9_total_175 : decode cX9_total 175 = .ok (.iload_n 3, 1) := by decide +kernel
theorem dX9_total_176 : decode cX9_total 176 = .ok (.istore_n 3, 1) := by decide +kernel
theorem dX9_total_177 : decode cX9_total 177 = .ok (.iload 4, 2) := by decide +kernel
theorem dX9_total_179 : decode cX9_total 179 = .ok (.ldc 74, 2) := by decide +kernel
theorem dX9_total_181 : decode cX9_total 181 = .ok (.if_icmp .eq 10, 3) := by decide +kernel
theorem dX9_total_184 : decode cX9_total 184 = .ok (.iload 11, 2) := by decide +kernel
theorem dX9_total_186 : decode cX9_total 186 = .ok (.iload 4, 2) := by decide +kernel
theorem dX9_total_188 : decode cX9_total 188 = .ok (.if_icmp .le 8, 3) := by decide +kernel
theorem dX9_total_191 : decode cX9_total 191 = .ok (.iload 11, 2) := by decide +kernel
theorem dX9_total_193 : decode cX9_total 193 = .ok (.goto 5, 3) := by decide +kernel
theorem dX9_total_196 : decode cX9_total 196 = .ok (.iload 4, 2) := by decide +kernel
theorem dX9_total_198 : decode cX9_total 198 = .ok (.istore 4, 2) := by decide +kernel
theorem dX9_total_200 : decode cX9_total 200 = .ok (.iload 5, 2) := by decide +kernel
theorem dX9_total_202 : decode cX9_total 202 = .ok (.iload 11, 2) := by decide +kernel
theorem dX9_total_204 : decode cX9_total 204 = .ok (.iadd, 1) := by decide +kernel
theorem dX9_total_205 : decode cX9_total 205 = .ok (.istore 5, 2) := by decide +kernel
theorem dX9_total_207 : decode cX9_total 207 = .ok (.iinc 10 1, 3) := by decide +kernel
theorem dX9_total_210 : decode cX9_total 210 = .ok (.goto (-101), 3) := by decide +kernel
theorem dX9_total_213 : decode cX9_total 213 = .ok (.iinc 8 1, 3) := by decide +kernel
theorem dX9_total_216 : decode cX9_total 216 = .ok (.goto (-163), 3) := by decide +kernel
theorem dX9_total_219 : decode cX9_total 219 = .ok (.iload_n 2, 1) := by decide +kernel
theorem dX9_total_220 : decode cX9_total 220 = .ok (.tableswitch 36 0 2 #[28, 30, 33], 28) := by decide +kernel
theorem dX9_total_248 : decode cX9_total 248 = .ok (.iload_n 3, 1) := by decide +kernel
theorem dX9_total_249 : decode cX9_total 249 = .ok (.ireturn, 1) := by decide +kernel
theorem dX9_total_250 : decode cX9_total 250 = .ok (.iload 4, 2) := by decide +kernel
theorem dX9_total_252 : decode cX9_total 252 = .ok (.ireturn, 1) := by decide +kernel
theorem dX9_total_253 : decode cX9_total 253 = .ok (.iload 5, 2) := by decide +kernel
theorem dX9_total_255 : decode cX9_total 255 = .ok (.ireturn, 1) := by decide +kernel
theorem dX9_total_256 : decode cX9_total 256 = .ok (.iload_n 2, 1) := by decide +kernel
theorem dX9_total_257 : decode cX9_total 257 = .ok (.iconst 3, 1) := by decide +kernel
theorem dX9_total_258 : decode cX9_total 258 = .ok (.if_icmp .ne 8, 3) := by decide +kernel
theorem dX9_total_261 : decode cX9_total 261 = .ok (.iload 6, 2) := by decide +kernel
theorem dX9_total_263 : decode cX9_total 263 = .ok (.goto 5, 3) := by decide +kernel
theorem dX9_total_266 : decode cX9_total 266 = .ok (.iload 7, 2) := by decide +kernel
theorem dX9_total_268 : decode cX9_total 268 = .ok (.ireturn, 1) := by decide +kernel
theorem dX9_image_0 : decode cX9_image 0 = .ok (.iload_n 1, 1) := by decide +kernel
theorem dX9_image_1 : decode cX9_image 1 = .ok (.iconst 0, 1) := by decide +kernel
theorem dX9_image_2 : decode cX9_image 2 = .ok (.iconst 1, 1) := by decide +kernel
theorem dX9_image_3 : decode cX9_image 3 = .ok (.invokestatic 66, 3) := by decide +kernel
theorem dX9_image_6 : decode cX9_image 6 = .ok (.ifCond .ne 6, 3) := by decide +kernel
theorem dX9_image_9 : decode cX9_image 9 = .ok (.bipush (-2), 2) := by decide +kernel
theorem dX9_image_11 : decode cX9_image 11 = .ok (.ireturn, 1) := by decide +kernel
theorem dX9_image_12 : decode cX9_image 12 = .ok (.sipush 500, 3) := by decide +kernel
theorem dX9_image_15 : decode cX9_image 15 = .ok (.iload_n 1, 1) := by decide +kernel
theorem dX9_image_16 : decode cX9_image 16 = .ok (.imul, 1) := by decide +kernel
theorem dX9_image_17 : decode cX9_image 17 = .ok (.istore_n 2, 1) := by decide +kernel
theorem dX9_image_18 : decode cX9_image 18 = .ok (.iconst 0, 1) := by decide +kernel
theorem dX9_image_19 : decode cX9_image 19 = .ok (.istore_n 3, 1) := by decide +kernel
theorem dX9_image_20 : decode cX9_image 20 = .ok (.iload_n 3, 1) := by decide +kernel
theorem dX9_image_21 : decode cX9_image 21 = .ok (.sipush 192, 3) := by decide +kernel
theorem dX9_image_24 : decode cX9_image 24 = .ok (.if_icmp .ge 23, 3) := by decide +kernel
theorem dX9_image_27 : decode cX9_image 27 = .ok (.aload_n 0, 1) := by decide +kernel
theorem dX9_image_28 : decode cX9_image 28 = .ok (.getfield 55, 3) := by decide +kernel
theorem dX9_image_31 : decode cX9_image 31 = .ok (.iload_n 2, 1) := by decide +kernel
theorem dX9_image_32 : decode cX9_image 32 = .ok (.iload_n 3, 1) := by decide +kernel
theorem dX9_image_33 : decode cX9_image 33 = .ok (.iadd, 1) := by decide +kernel
theorem dX9_image_34 : decode cX9_image 34 = .ok (.aload_n 0, 1) := by decide +kernel
theorem dX9_image_35 : decode cX9_image 35 = .ok (.getfield 7, 3) := by decide +kernel
theorem dX9_image_38 : decode cX9_image 38 = .ok (.iload_n 3, 1) := by decide +kernel
theorem dX9_image_39 : decode cX9_image 39 = .ok (.iaload, 1) := by decide +kernel
theorem dX9_image_40 : decode cX9_image 40 = .ok (.iastore, 1) := by decide +kernel
theorem dX9_image_41 : decode cX9_image 41 = .ok (.iinc 3 1, 3) := by decide +kernel
theorem dX9_image_44 : decode cX9_image 44 = .ok (.goto (-24), 3) := by decide +kernel
theorem dX9_image_47 : decode cX9_image 47 = .ok (.iconst 0, 1) := by decide +kernel
theorem dX9_image_48 : decode cX9_image 48 = .ok (.istore_n 3, 1) := by decide +kernel
theorem dX9_image_49 : decode cX9_image 49 = .ok (.iload_n 3, 1) := by decide +kernel
theorem dX9_image_50 : decode cX9_image 50 = .ok (.sipush 288, 3) := by decide +kernel
theorem dX9_image_53 : decode cX9_image 53 = .ok (.if_icmp .ge 27, 3) := by decide +kernel
theorem dX9_image_56 : decode cX9_image 56 = .ok (.aload_n 0, 1) := by decide +kernel
theorem dX9_image_57 : decode cX9_image 57 = .ok (.getfield 55, 3) := by decide +kernel
theorem dX9_image_60 : decode cX9_image 60 = .ok (.iload_n 2, 1) := by decide +kernel
theorem dX9_image_61 : decode cX9_image 61 = .ok (.sipush 192, 3) := by decide +kernel
theorem dX9_image_64 : decode cX9_image 64 = .ok (.iadd, 1) := by decide +kernel
theorem dX9_image_65 : decode cX9_image 65 = .ok (.iload_n 3, 1) := by decide +kernel
theorem dX9_image_66 : decode cX9_image 66 = .ok (.iadd, 1) := by decide +kernel
theorem dX9_image_67 : decode cX9_image 67 = .ok (.aload_n 0, 1) := by decide +kernel
theorem dX9_image_68 : decode cX9_image 68 = .ok (.getfield 16, 3) := by decide +kernel
theorem dX9_image_71 : decode cX9_image 71 = .ok (.iload_n 3, 1) := by decide +kernel
theorem dX9_image_72 : decode cX9_image 72 = .ok (.iaload, 1) := by decide +kernel
theorem dX9_image_73 : decode cX9_image 73 = .ok (.iastore, 1) := by decide +kernel
theorem dX9_image_74 : decode cX9_image 74 = .ok (.iinc 3 1, 3) := by decide +kernel
theorem dX9_image_77 : decode cX9_image 77 = .ok (.goto (-28), 3) := by decide +kernel
theorem dX9_image_80 : decode cX9_image 80 = .ok (.iconst 0, 1) := by decide +kernel
theorem dX9_image_81 : decode cX9_image 81 = .ok (.istore_n 3, 1) := by decide +kernel
theorem dX9_image_82 : decode cX9_image 82 = .ok (.iload_n 3, 1) := by decide +kernel
theorem dX9_image_83 : decode cX9_image 83 = .ok (.bipush 6, 2) := by decide +kernel
theorem dX9_image_85 : decode cX9_image 85 = .ok (.if_icmp .ge 27, 3) := by decide +kernel
theorem dX9_image_88 : decode cX9_image 88 = .ok (.aload_n 0, 1) := by decide +kernel
theorem dX9_image_89 : decode cX9_image 89 = .ok (.getfield 55, 3) := by decide +kernel
theorem dX9_image_92 : decode cX9_image 92 = .ok (.iload_n 2, 1) := by decide +kernel
theorem dX9_image_93 : decode cX9_image 93 = .ok (.sipush 480, 3) := by decide +kernel
theorem dX9_image_96 : decode cX9_image 96 = .ok (.iadd, 1) := by decide +kernel
theorem dX9_image_97 : decode cX9_image 97 = .ok (.iload_n 3, 1) := by decide +kernel
theorem dX9_image_98 : decode cX9_image 98 = .ok (.iadd, 1) := by decide +kernel
theorem dX9_image_99 : decode cX9_image 99 = .ok (.aload_n 0, 1) := by decide +kernel
theorem dX9_image_100 : decode cX9_image 100 = .ok (.getfield 13, 3) := by decide +kernel
theorem dX9_image_103 : decode cX9_image 103 = .ok (.iload_n 3, 1) := by decide +kernel
theorem dX9_image_104 : decode cX9_image 104 = .ok (.iaload, 1) := by decide +kernel
theorem dX9_image_105 : decode cX9_image 105 = .ok (.iastore, 1) := by decide +kernel
theorem dX9_image_106 : decode cX9_image 106 = .ok (.iinc 3 1, 3) := by decide +kernel
theorem dX9_image_109 : decode cX9_image 109 = .ok (.goto (-27), 3) := by decide +kernel
theorem dX9_image_112 : decode cX9_image 112 = .ok (.aload_n 0, 1) := by decide +kernel
theorem dX9_image_113 : decode cX9_image 113 = .ok (.getfield 58, 3) := by decide +kernel
theorem dX9_image_116 : decode cX9_image 116 = .ok (.iload_n 1, 1) := by decide +kernel
theorem dX9_image_117 : decode cX9_image 117 = .ok (.iconst 1, 1) := by decide +kernel
theorem dX9_image_118 : decode cX9_image 118 = .ok (.bastore, 1) := by decide +kernel
theorem dX9_image_119 : decode cX9_image 119 = .ok (.iconst 1, 1) := by decide +kernel
theorem dX9_image_120 : decode cX9_image 120 = .ok (.ireturn, 1) := by decide +kernel
theorem dX9_restore_0 : decode cX9_restore 0 = .ok (.iload_n 1, 1) := by decide +kernel
theorem dX9_restore_1 : decode cX9_restore 1 = .ok (.iconst 0, 1) := by decide +kernel
theorem dX9_restore_2 : decode cX9_restore 2 = .ok (.iconst 1, 1) := by decide +kernel
theorem dX9_restore_3 : decode cX9_restore 3 = .ok (.invokestatic 66, 3) := by decide +kernel
theorem dX9_restore_6 : decode cX9_restore 6 = .ok (.ifCond .ne 6, 3) := by decide +kernel
theorem dX9_restore_9 : decode cX9_restore 9 = .ok (.bipush (-2), 2) := by decide +kernel
theorem dX9_restore_11 : decode cX9_restore 11 = .ok (.ireturn, 1) := by decide +kernel
theorem dX9_restore_12 : decode cX9_restore 12 = .ok (.aload_n 0, 1) := by decide +kernel
theorem dX9_restore_13 : decode cX9_restore 13 = .ok (.getfield 58, 3) := by decide +kernel
theorem dX9_restore_16 : decode cX9_restore 16 = .ok (.iload_n 1, 1) := by decide +kernel
theorem dX9_restore_17 : decode cX9_restore 17 = .ok (.baload, 1) := by decide +kernel
theorem dX9_restore_18 : decode cX9_restore 18 = .ok (.ifCond .ne 6, 3) := by decide +kernel
theorem dX9_restore_21 : decode cX9_restore 21 = .ok (.bipush (-3), 2) := by decide +kernel
theorem dX9_restore_23 : decode cX9_restore 23 = .ok (.ireturn, 1) := by decide +kernel
theorem dX9_restore_24 : decode cX9_restore 24 = .ok (.sipush 500, 3) := by decide +kernel
theorem dX9_restore_27 : decode cX9_restore 27 = .ok (.iload_n 1, 1) := by decide +kernel
theorem dX9_restore_28 : decode cX9_restore 28 = .ok (.imul, 1) := by decide +kernel
theorem dX9_restore_29 : decode cX9_restore 29 = .ok (.istore_n 2, 1) := by decide +kernel
theorem dX9_restore_30 : decode cX9_restore 30 = .ok (.iconst 0, 1) := by decide +kernel
theorem dX9_restore_31 : decode cX9_restore 31 = .ok (.istore_n 3, 1) := by decide +kernel
theorem dX9_restore_32 : decode cX9_restore 32 = .ok (.iload_n 3, 1) := by decide +kernel
theorem dX9_restore_33 : decode cX9_restore 33 = .ok (.sipush 192, 3) := by decide +kernel
theorem dX9_restore_36 : decode cX9_restore 36 = .ok (.if_icmp .ge 23, 3) := by decide +kernel
theorem dX9_restore_39 : decode cX9_restore 39 = .ok (.aload_n 0, 1) := by decide +kernel
theorem dX9_restore_40 : decode cX9_restore 40 = .ok (.getfield 7, 3) := by decide +kernel
theorem dX9_restore_43 : decode cX9_restore 43 = .ok (.iload_n 3, 1) := by decide +kernel
theorem dX9_restore_44 : decode cX9_restore 44 = .ok (.aload_n 0, 1) := by decide +kernel
theorem dX9_restore_45 : decode cX9_restore 45 = .ok (.getfield 55, 3) := by decide +kernel
theorem dX9_restore_48 : decode cX9_restore 48 = .ok (.iload_n 2, 1) := by decide +kernel
theorem dX9_restore_49 : decode cX9_restore 49 = .ok (.iload_n 3, 1) := by decide +kernel
theorem dX9_restore_50 : decode cX9_restore 50 = .ok (.iadd, 1) := by decide +kernel
theorem dX9_restore_51 : decode cX9_restore 51 = .ok (.iaload, 1) := by decide +kernel
theorem dX9_restore_52 : decode cX9_restore 52 = .ok (.iastore, 1) := by decide +kernel
theorem dX9_restore_53 : decode cX9_restore 53 = .ok (.iinc 3 1, 3) := by decide +kernel
theorem dX9_restore_56 : decode cX9_restore 56 = .ok (.goto (-24), 3) := by decide +kernel
theorem dX9_restore_59 : decode cX9_restore 59 = .ok (.iconst 0, 1) := by decide +kernel
theorem dX9_restore_60 : decode cX9_restore 60 = .ok (.istore_n 3, 1) := by decide +kernel
theorem dX9_restore_61 : decode cX9_restore 61 = .ok (.iload_n 3, 1) := by decide +kernel
theorem dX9_restore_62 : decode cX9_restore 62 = .ok (.sipush 288, 3) := by decide +kernel
theorem dX9_restore_65 : decode cX9_restore 65 = .ok (.if_icmp .ge 27, 3) := by decide +kernel
theorem dX9_restore_68 : decode cX9_restore 68 = .ok (.aload_n 0, 1) := by decide +kernel
theorem dX9_restore_69 : decode cX9_restore 69 = .ok (.getfield 16, 3) := by decide +kernel
theorem dX9_restore_72 : decode cX9_restore 72 = .ok (.iload_n 3, 1) := by decide +kernel
theorem dX9_restore_73 : decode cX9_restore 73 = .ok (.aload_n 0, 1) := by decide +kernel
theorem dX9_restore_74 : decode cX9_restore 74 = .ok (.getfield 55, 3) := by decide +kernel
theorem dX9_restore_77 : decode cX9_restore 77 = .ok (.iload_n 2, 1) := by decide +kernel
theorem dX9_restore_78 : decode cX9_restore 78 = .ok (.sipush 192, 3) := by decide +kernel
theorem dX9_restore_81 : decode cX9_restore 81 = .ok (.iadd, 1) := by decide +kernel
theorem dX9_restore_82 : decode cX9_restore 82 = .ok (.iload_n 3, 1) := by decide +kernel
theorem dX9_restore_83 : decode cX9_restore 83 = .ok (.iadd, 1) := by decide +kernel
theorem dX9_restore_84 : decode cX9_restore 84 = .ok (.iaload, 1) := by decide +kernel
theorem dX9_restore_85 : decode cX9_restore 85 = .ok (.iastore, 1) := by decide +kernel
theorem dX9_restore_86 : decode cX9_restore 86 = .ok (.iinc 3 1, 3) := by decide +kernel
theorem dX9_restore_89 : decode cX9_restore 89 = .ok (.goto (-28), 3) := by decide +kernel
theorem dX9_restore_92 : decode cX9_restore 92 = .ok (.iconst 0, 1) := by decide +kernel
theorem dX9_restore_93 : decode cX9_restore 93 = .ok (.istore_n 3, 1) := by decide +kernel
theorem dX9_restore_94 : decode cX9_restore 94 = .ok (.iload_n 3, 1) := by decide +kernel
theorem dX9_restore_95 : decode cX9_restore 95 = .ok (.bipush 6, 2) := by decide +kernel
theorem dX9_restore_97 : decode cX9_restore 97 = .ok (.if_icmp .ge 27, 3) := by decide +kernel
theorem dX9_restore_100 : decode cX9_restore 100 = .ok (.aload_n 0, 1) := by decide +kernel
theorem dX9_restore_101 : decode cX9_restore 101 = .ok (.getfield 13, 3) := by decide +kernel
theorem dX9_restore_104 : decode cX9_restore 104 = .ok (.iload_n 3, 1) := by decide +kernel
theorem dX9_restore_105 : decode cX9_restore 105 = .ok (.aload_n 0, 1) := by decide +kernel
theorem dX9_restore_106 : decode cX9_restore 106 = .ok (.getfield 55, 3) := by decide +kernel
theorem dX9_restore_109 : decode cX9_restore 109 = .ok (.iload_n 2, 1) := by decide +kernel
theorem dX9_restore_110 : decode cX9_restore 110 = .ok (.sipush 480, 3) := by decide +kernel
theorem dX9_restore_113 : decode cX9_restore 113 = .ok (.iadd, 1) := by decide +kernel
theorem dX9_restore_114 : decode cX9_restore 114 = .ok (.iload_n 3, 1) := by decide +kernel
theorem dX9_restore_115 : decode cX9_restore 115 = .ok (.iadd, 1) := by decide +kernel
theorem dX9_restore_116 : decode cX9_restore 116 = .ok (.iaload, 1) := by decide +kernel
theorem dX9_restore_117 : decode cX9_restore 117 = .ok (.iastore, 1) := by decide +kernel
theorem dX9_restore_118 : decode cX9_restore 118 = .ok (.iinc 3 1, 3) := by decide +kernel
theorem dX9_restore_121 : decode cX9_restore 121 = .ok (.goto (-27), 3) := by decide +kernel
theorem dX9_restore_124 : decode cX9_restore 124 = .ok (.iconst 1, 1) := by decide +kernel
theorem dX9_restore_125 : decode cX9_restore 125 = .ok (.ireturn, 1) := by decide +kernel
theorem dX9_told_0 : decode cX9_told 0 = .ok (.iload_n 1, 1) := by decide +kernel
theorem dX9_told_1 : decode cX9_told 1 = .ok (.bipush 20, 2) := by decide +kernel
theorem dX9_told_3 : decode cX9_told 3 = .ok (.if_icmp .lt 99, 3) := by decide +kernel
theorem dX9_told_6 : decode cX9_told 6 = .ok (.iload_n 1, 1) := by decide +kernel
theorem dX9_told_7 : decode cX9_told 7 = .ok (.bipush 20, 2) := by decide +kernel
theorem dX9_told_9 : decode cX9_told 9 = .ok (.isub, 1) := by decide +kernel
theorem dX9_told_10 : decode cX9_told 10 = .ok (.istore_n 2, 1) := by decide +kernel
theorem dX9_told_11 : decode cX9_told 11 = .ok (.iload_n 2, 1) := by decide +kernel
theorem dX9_told_12 : decode cX9_told 12 = .ok (.invokestatic 70, 3) := by decide +kernel
theorem dX9_told_15 : decode cX9_told 15 = .ok (.ifCond .ne 6, 3) := by decide +kernel
theorem dX9_told_18 : decode cX9_told 18 = .ok (.bipush (-2), 2) := by decide +kernel
theorem dX9_told_20 : decode cX9_told 20 = .ok (.ireturn, 1) := by decide +kernel
theorem dX9_told_21 : decode cX9_told 21 = .ok (.iconst 0, 1) := by decide +kernel
theorem dX9_told_22 : decode cX9_told 22 = .ok (.istore_n 3, 1) := by decide +kernel
theorem dX9_told_23 : decode cX9_told 23 = .ok (.iconst 0, 1) := by decide +kernel
theorem dX9_told_24 : decode cX9_told 24 = .ok (.istore 4, 2) := by decide +kernel
theorem dX9_told_26 : decode cX9_told 26 = .ok (.iload 4, 2) := by decide +kernel
theorem dX9_told_28 : decode cX9_told 28 = .ok (.aload_n 0, 1) := by decide +kernel
theorem dX9_told_29 : decode cX9_told 29 = .ok (.getfield 13, 3) := by decide +kernel
theorem dX9_told_32 : decode cX9_told 32 = .ok (.iload_n 2, 1) := by decide +kernel
theorem dX9_told_33 : decode cX9_told 33 = .ok (.iaload, 1) := by decide +kernel
theorem dX9_told_34 : decode cX9_told 34 = .ok (.if_icmp .ge 66, 3) := by decide +kernel
theorem dX9_told_37 : decode cX9_told 37 = .ok (.iconst 1, 1) := by decide +kernel
theorem dX9_told_38 : decode cX9_told 38 = .ok (.istore 5, 2) := by decide +kernel
theorem dX9_told_40 : decode cX9_told 40 = .ok (.iconst 0, 1) := by decide +kernel
theorem dX9_told_41 : decode cX9_told 41 = .ok (.istore 6, 2) := by decide +kernel
theorem dX9_told_43 : decode cX9_told 43 = .ok (.iload 6, 2) := by decide +kernel
theorem dX9_told_45 : decode cX9_told 45 = .ok (.iload 4, 2) := by decide +kernel
theorem dX9_told_47 : decode cX9_told 47 = .ok (.if_icmp .ge 34, 3) := by decide +kernel
theorem dX9_told_50 : decode cX9_told 50 = .ok (.iload 5, 2) := by decide +kernel
theorem dX9_told_52 : decode cX9_told 52 = .ok (.ifCond .eq 20, 3) := by decide +kernel
theorem dX9_told_55 : decode cX9_told 55 = .ok (.aload_n 0, 1) := by decide +kernel
theorem dX9_told_56 : decode cX9_told 56 = .ok (.iload_n 2, 1) := by decide +kernel
theorem dX9_told_57 : decode cX9_told 57 = .ok (.iload 4, 2) := by decide +kernel
theorem dX9_told_59 : decode cX9_told 59 = .ok (.iload_n 2, 1) := by decide +kernel
theorem dX9_told_60 : decode cX9_told 60 = .ok (.iload 6, 2) := by decide +kernel
theorem dX9_told_62 : decode cX9_told 62 = .ok (.invokevirtual 183, 3) := by decide +kernel
theorem dX9_told_65 : decode cX9_told 65 = .ok (.ifCond .ne 7, 3) := by decide +kernel
theorem dX9_told_68 : decode cX9_told 68 = .ok (.iconst 1, 1) := by decide +kernel
theorem dX9_told_69 : decode cX9_told 69 = .ok (.goto 4, 3) := by decide +kernel
theorem dX9_told_72 : decode cX9_told 72 = .ok (.iconst 0, 1) := by decide +kernel
theorem dX9_told_73 : decode cX9_told 73 = .ok (.istore 5, 2) := by decide +kernel
theorem dX9_told_75 : decode cX9_told 75 = .ok (.iinc 6 1, 3) := by decide +kernel
theorem dX9_told_78 : decode cX9_told 78 = .ok (.goto (-35), 3) := by decide +kernel
theorem dX9_told_81 : decode cX9_told 81 = .ok (.iload_n 3, 1) := by decide +kernel
theorem dX9_told_82 : decode cX9_told 82 = .ok (.iload 5, 2) := by decide +kernel
theorem dX9_told_84 : decode cX9_told 84 = .ok (.ifCond .eq 7, 3) := by decide +kernel
theorem dX9_told_87 : decode cX9_told 87 = .ok (.iconst 1, 1) := by decide +kernel
theorem dX9_told_88 : decode cX9_told 88 = .ok (.goto 4, 3) := by decide +kernel
theorem dX9_told_91 : decode cX9_told 91 = .ok (.iconst 0, 1) := by decide +kernel
theorem dX9_told_92 : decode cX9_told 92 = .ok (.iadd, 1) := by decide +kernel
theorem dX9_told_93 : decode cX9_told 93 = .ok (.istore_n 3, 1) := by decide +kernel
theorem dX9_told_94 : decode cX9_told 94 = .ok (.iinc 4 1, 3) := by decide +kernel
theorem dX9_told_97 : decode cX9_told 97 = .ok (.goto (-71), 3) := by decide +kernel
theorem dX9_told_100 : decode cX9_told 100 = .ok (.iload_n 3, 1) := by decide +kernel
theorem dX9_told_101 : decode cX9_told 101 = .ok (.ireturn, 1) := by decide +kernel
theorem dX9_told_102 : decode cX9_told 102 = .ok (.iload_n 1, 1) := by decide +kernel
theorem dX9_told_103 : decode cX9_told 103 = .ok (.bipush 10, 2) := by decide +kernel
theorem dX9_told_105 : decode cX9_told 105 = .ok (.if_icmp .lt 28, 3) := by decide +kernel
theorem dX9_told_108 : decode cX9_told 108 = .ok (.iload_n 1, 1) := by decide +kernel
theorem dX9_told_109 : decode cX9_told 109 = .ok (.bipush 10, 2) := by decide +kernel
theorem dX9_told_111 : decode cX9_told 111 = .ok (.isub, 1) := by decide +kernel
theorem dX9_told_112 : decode cX9_told 112 = .ok (.invokestatic 70, 3) := by decide +kernel
theorem dX9_told_115 : decode cX9_told 115 = .ok (.ifCond .eq 15, 3) := by decide +kernel
theorem dX9_told_118 : decode cX9_told 118 = .ok (.aload_n 0, 1) := by decide +kernel
theorem dX9_told_119 : decode cX9_told 119 = .ok (.getfield 13, 3) := by decide +kernel
theorem dX9_told_122 : decode cX9_told 122 = .ok (.iload_n 1, 1) := by decide +kernel
theorem dX9_told_123 : decode cX9_told 123 = .ok (.bipush 10, 2) := by decide +kernel
theorem dX9_told_125 : decode cX9_told 125 = .ok (.isub, 1) := by decide +kernel
theorem dX9_told_126 : decode cX9_told 126 = .ok (.iaload, 1) := by decide +kernel
theorem dX9_told_127 : decode cX9_told 127 = .ok (.goto 5, 3) := by decide +kernel
theorem dX9_told_130 : decode cX9_told 130 = .ok (.bipush (-2), 2) := by decide +kernel
theorem dX9_told_132 : decode cX9_told 132 = .ok (.ireturn, 1) := by decide +kernel
theorem dX9_told_133 : decode cX9_told 133 = .ok (.iconst 0, 1) := by decide +kernel
theorem dX9_told_134 : decode cX9_told 134 = .ok (.istore_n 2, 1) := by decide +kernel
theorem dX9_told_135 : decode cX9_told 135 = .ok (.iconst 0, 1) := by decide +kernel
theorem dX9_told_136 : decode cX9_told 136 = .ok (.istore_n 3, 1) := by decide +kernel
theorem dX9_told_137 : decode cX9_told 137 = .ok (.iload_n 3, 1) := by decide +kernel
theorem dX9_told_138 : decode cX9_told 138 = .ok (.bipush 6, 2) := by decide +kernel
theorem dX9_told_140 : decode cX9_told 140 = .ok (.if_icmp .ge 18, 3) := by decide +kernel
theorem dX9_told_143 : decode cX9_told 143 = .ok (.iload_n 2, 1) := by decide +kernel
theorem dX9_told_144 : decode cX9_told 144 = .ok (.aload_n 0, 1) := by decide +kernel
theorem dX9_told_145 : decode cX9_told 145 = .ok (.getfield 13, 3) := by decide +kernel
theorem dX9_told_148 : decode cX9_told 148 = .ok (.iload_n 3, 1) := by decide +kernel
theorem dX9_told_149 : decode cX9_told 149 = .ok (.iaload, 1) := by decide +kernel
theorem dX9_told_150 : decode cX9_told 150 = .ok (.iadd, 1) := by decide +kernel
theorem dX9_told_151 : decode cX9_told 151 = .ok (.istore_n 2, 1) := by decide +kernel
theorem dX9_told_152 : decode cX9_told 152 = .ok (.iinc 3 1, 3) := by decide +kernel
theorem dX9_told_155 : decode cX9_told 155 = .ok (.goto (-18), 3) := by decide +kernel
theorem dX9_told_158 : decode cX9_told 158 = .ok (.iload_n 1, 1) := by decide +kernel
theorem dX9_told_159 : decode cX9_told 159 = .ok (.ifCond .ne 10, 3) := by decide +kernel
theorem dX9_told_162 : decode cX9_told 162 = .ok (.aload_n 0, 1) := by decide +kernel
theorem dX9_told_163 : decode cX9_told 163 = .ok (.getfield 102, 3) := by decide +kernel
theorem dX9_told_166 : decode cX9_told 166 = .ok (.goto 14, 3) := by decide +kernel
theorem dX9_told_169 : decode cX9_told 169 = .ok (.iload_n 1, 1) := by decide +kernel
theorem dX9_told_170 : decode cX9_told 170 = .ok (.iconst 1, 1) := by decide +kernel
theorem dX9_told_171 : decode cX9_told 171 = .ok (.if_icmp .ne 7, 3) := by decide +kernel
theorem dX9_told_174 : decode cX9_told 174 = .ok (.iload_n 2, 1) := by decide +kernel
theorem dX9_told_175 : decode cX9_told 175 = .ok (.goto 5, 3) := by decide +kernel
theorem dX9_told_178 : decode cX9_told 178 = .ok (.bipush (-2), 2) := by decide +kernel
theorem dX9_told_180 : decode cX9_told 180 = .ok (.ireturn, 1) := by decide +kernel
