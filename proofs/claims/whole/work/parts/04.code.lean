theorem dX8_init_0 : decode cX8_init 0 = .ok (.aload_n 0, 1) := by decide +kernel
theorem dX8_init_1 : decode cX8_init 1 = .ok (.invokespecial 3, 3) := by decide +kernel
theorem dX8_init_4 : decode cX8_init 4 = .ok (.aload_n 0, 1) := by decide +kernel
theorem dX8_init_5 : decode cX8_init 5 = .ok (.new 9, 3) := by decide +kernel
theorem dX8_init_8 : decode cX8_init 8 = .ok (.dup, 1) := by decide +kernel
theorem dX8_init_9 : decode cX8_init 9 = .ok (.invokespecial 11, 3) := by decide +kernel
theorem dX8_init_12 : decode cX8_init 12 = .ok (.putfield 12, 3) := by decide +kernel
theorem dX8_init_15 : decode cX8_init 15 = .ok (.aload_n 0, 1) := by decide +kernel
theorem dX8_init_16 : decode cX8_init 16 = .ok (.iconst 2, 1) := by decide +kernel
theorem dX8_init_17 : decode cX8_init 17 = .ok (.anewarray 9, 3) := by decide +kernel
theorem dX8_init_20 : decode cX8_init 20 = .ok (.putfield 16, 3) := by decide +kernel
theorem dX8_init_23 : decode cX8_init 23 = .ok (.aload_n 0, 1) := by decide +kernel
theorem dX8_init_24 : decode cX8_init 24 = .ok (.new 20, 3) := by decide +kernel
theorem dX8_init_27 : decode cX8_init 27 = .ok (.dup, 1) := by decide +kernel
theorem dX8_init_28 : decode cX8_init 28 = .ok (.invokespecial 22, 3) := by decide +kernel
theorem dX8_init_31 : decode cX8_init 31 = .ok (.putfield 23, 3) := by decide +kernel
theorem dX8_init_34 : decode cX8_init 34 = .ok (.aload_n 0, 1) := by decide +kernel
theorem dX8_init_35 : decode cX8_init 35 = .ok (.new 27, 3) := by decide +kernel
theorem dX8_init_38 : decode cX8_init 38 = .ok (.dup, 1) := by decide +kernel
theorem dX8_init_39 : decode cX8_init 39 = .ok (.aload_n 0, 1) := by decide +kernel
theorem dX8_init_40 : decode cX8_init 40 = .ok (.getfield 23, 3) := by decide +kernel
theorem dX8_init_43 : decode cX8_init 43 = .ok (.invokespecial 29, 3) := by decide +kernel
theorem dX8_init_46 : decode cX8_init 46 = .ok (.putfield 32, 3) := by decide +kernel
theorem dX8_init_49 : decode cX8_init 49 = .ok (.aload_n 0, 1) := by decide +kernel
theorem dX8_init_50 : decode cX8_init 50 = .ok (.new 36, 3) := by decide +kernel
theorem dX8_init_53 : decode cX8_init 53 = .ok (.dup, 1) := by decide +kernel
theorem dX8_init_54 : decode cX8_init 54 = .ok (.aload_n 0, 1) := by decide +kernel
theorem dX8_init_55 : decode cX8_init 55 = .ok (.getfield 23, 3) := by decide +kernel
theorem dX8_init_58 : decode cX8_init 58 = .ok (.invokespecial 38, 3) := by decide +kernel
theorem dX8_init_61 : decode cX8_init 61 = .ok (.putfield 39, 3) := by decide +kernel
theorem dX8_init_64 : decode cX8_init 64 = .ok (.aload_n 0, 1) := by decide +kernel
theorem dX8_init_65 : decode cX8_init 65 = .ok (.iconst 4, 1) := by decide +kernel
theorem dX8_init_66 : decode cX8_init 66 = .ok (.newarray .int, 2) := by decide +kernel
theorem dX8_init_68 : decode cX8_init 68 = .ok (.putfield 43, 3) := by decide +kernel
theorem dX8_init_71 : decode cX8_init 71 = .ok (.aload_n 0, 1) := by decide +kernel
theorem dX8_init_72 : decode cX8_init 72 = .ok (.bipush 6, 2) := by decide +kernel
theorem dX8_init_74 : decode cX8_init 74 = .ok (.newarray .int, 2) := by decide +kernel
theorem dX8_init_76 : decode cX8_init 76 = .ok (.putfield 47, 3) := by decide +kernel
theorem dX8_init_79 : decode cX8_init 79 = .ok (.aload_n 0, 1) := by decide +kernel
theorem dX8_init_80 : decode cX8_init 80 = .ok (.new 50, 3) := by decide +kernel
theorem dX8_init_83 : decode cX8_init 83 = .ok (.dup, 1) := by decide +kernel
theorem dX8_init_84 : decode cX8_init 84 = .ok (.invokespecial 52, 3) := by decide +kernel
theorem dX8_init_87 : decode cX8_init 87 = .ok (.putfield 53, 3) := by decide +kernel
theorem dX8_init_90 : decode cX8_init 90 = .ok (.aload_n 0, 1) := by decide +kernel
theorem dX8_init_91 : decode cX8_init 91 = .ok (.new 57, 3) := by decide +kernel
theorem dX8_init_94 : decode cX8_init 94 = .ok (.dup, 1) := by decide +kernel
theorem dX8_init_95 : decode cX8_init 95 = .ok (.invokespecial 59, 3) := by decide +kernel
theorem dX8_init_98 : decode cX8_init 98 = .ok (.putfield 60, 3) := by decide +kernel
theorem dX8_init_101 : decode cX8_init 101 = .ok (.return_, 1) := by decide +kernel
theorem dX8_add_0 : decode cX8_add 0 = .ok (.iload_n 1, 1) := by decide +kernel
theorem dX8_add_1 : decode cX8_add 1 = .ok (.invokestatic 64, 3) := by decide +kernel
theorem dX8_add_4 : decode cX8_add 4 = .ok (.ifCond .ne 5, 3) := by decide +kernel
theorem dX8_add_7 : decode cX8_add 7 = .ok (.iconst (-1), 1) := by decide +kernel
theorem dX8_add_8 : decode cX8_add 8 = .ok (.ireturn, 1) := by decide +kernel
theorem dX8_add_9 : decode cX8_add 9 = .ok (.iload_n 2, 1) := by decide +kernel
theorem dX8_add_10 : decode cX8_add 10 = .ok (.invokestatic 68, 3) := by decide +kernel
theorem dX8_add_13 : decode cX8_add 13 = .ok (.ifCond .eq 26, 3) := by decide +kernel
theorem dX8_add_16 : decode cX8_add 16 = .ok (.iload_n 3, 1) := by decide +kernel
theorem dX8_add_17 : decode cX8_add 17 = .ok (.invokestatic 68, 3) := by decide +kernel
theorem dX8_add_20 : decode cX8_add 20 = .ok (.ifCond .eq 19, 3) := by decide +kernel
theorem dX8_add_23 : decode cX8_add 23 = .ok (.iload 4, 2) := by decide +kernel
theorem dX8_add_25 : decode cX8_add 25 = .ok (.invokestatic 68, 3) := by decide +kernel
theorem dX8_add_28 : decode cX8_add 28 = .ok (.ifCond .eq 11, 3) := by decide +kernel
theorem dX8_add_31 : decode cX8_add 31 = .ok (.iload 5, 2) := by decide +kernel
theorem dX8_add_33 : decode cX8_add 33 = .ok (.invokestatic 68, 3) := by decide +kernel
theorem dX8_add_36 : decode cX8_add 36 = .ok (.ifCond .ne 6, 3) := by decide +kernel
theorem dX8_add_39 : decode cX8_add 39 = .ok (.bipush (-2), 2) := by decide +kernel
theorem dX8_add_41 : decode cX8_add 41 = .ok (.ireturn, 1) := by decide +kernel
theorem dX8_add_42 : decode cX8_add 42 = .ok (.aload_n 0, 1) := by decide +kernel
theorem dX8_add_43 : decode cX8_add 43 = .ok (.getfield 12, 3) := by decide +kernel
theorem dX8_add_46 : decode cX8_add 46 = .ok (.getfield 71, 3) := by decide +kernel
theorem dX8_add_49 : decode cX8_add 49 = .ok (.iload_n 1, 1) := by decide +kernel
theorem dX8_add_50 : decode cX8_add 50 = .ok (.aaload, 1) := by decide +kernel
theorem dX8_add_51 : decode cX8_add 51 = .ok (.iload_n 2, 1) := by decide +kernel
theorem dX8_add_52 : decode cX8_add 52 = .ok (.iload_n 3, 1) := by decide +kernel
theorem dX8_add_53 : decode cX8_add 53 = .ok (.iload 4, 2) := by decide +kernel
theorem dX8_add_55 : decode cX8_add 55 = .ok (.iload 5, 2) := by decide +kernel
theorem dX8_add_57 : decode cX8_add 57 = .ok (.invokevirtual 75, 3) := by decide +kernel
theorem dX8_add_60 : decode cX8_add 60 = .ok (.ireturn, 1) := by decide +kernel
theorem dX8_drop_0 : decode cX8_drop 0 = .ok (.aload_n 0, 1) := by decide +kernel
theorem dX8_drop_1 : decode cX8_drop 1 = .ok (.iload_n 1, 1) := by decide +kernel
theorem dX8_drop_2 : decode cX8_drop 2 = .ok (.iload_n 2, 1) := by decide +kernel
theorem dX8_drop_3 : decode cX8_drop 3 = .ok (.invokevirtual 81, 3) := by decide +kernel
theorem dX8_drop_6 : decode cX8_drop 6 = .ok (.ifCond .ne 5, 3) := by decide +kernel
theorem dX8_drop_9 : decode cX8_drop 9 = .ok (.iconst (-1), 1) := by decide +kernel
theorem dX8_drop_10 : decode cX8_drop 10 = .ok (.ireturn, 1) := by decide +kernel
theorem dX8_drop_11 : decode cX8_drop 11 = .ok (.aload_n 0, 1) := by decide +kernel
theorem dX8_drop_12 : decode cX8_drop 12 = .ok (.getfield 12, 3) := by decide +kernel
theorem dX8_drop_15 : decode cX8_drop 15 = .ok (.getfield 71, 3) := by decide +kernel
theorem dX8_drop_18 : decode cX8_drop 18 = .ok (.iload_n 1, 1) := by decide +kernel
theorem dX8_drop_19 : decode cX8_drop 19 = .ok (.aaload, 1) := by decide +kernel
theorem dX8_drop_20 : decode cX8_drop 20 = .ok (.iload_n 2, 1) := by decide +kernel
theorem dX8_drop_21 : decode cX8_drop 21 = .ok (.invokevirtual 85, 3) := by decide +kernel
theorem dX8_drop_24 : decode cX8_drop 24 = .ok (.ireturn, 1) := by decide +kernel
theorem dX8_anew_0 : decode cX8_anew 0 = .ok (.iload_n 1, 1) := by decide +kernel
theorem dX8_anew_1 : decode cX8_anew 1 = .ok (.invokestatic 64, 3) := by decide +kernel
theorem dX8_anew_4 : decode cX8_anew 4 = .ok (.ifCond .ne 5, 3) := by decide +kernel
theorem dX8_anew_7 : decode cX8_anew 7 = .ok (.iconst (-1), 1) := by decide +kernel
theorem dX8_anew_8 : decode cX8_anew 8 = .ok (.ireturn, 1) := by decide +kernel
theorem dX8_anew_9 : decode cX8_anew 9 = .ok (.aload_n 0, 1) := by decide +kernel
theorem dX8_anew_10 : decode cX8_anew 10 = .ok (.getfield 12, 3) := by decide +kernel
theorem dX8_anew_13 : decode cX8_anew 13 = .ok (.getfield 71, 3) := by decide +kernel
theorem dX8_anew_16 : decode cX8_anew 16 = .ok (.iload_n 1, 1) := by decide +kernel
theorem dX8_anew_17 : decode cX8_anew 17 = .ok (.aaload, 1) := by decide +kernel
theorem dX8_anew_18 : decode cX8_anew 18 = .ok (.invokevirtual 89, 3) := by decide +kernel
theorem dX8_anew_21 : decode cX8_anew 21 = .ok (.ireturn, 1) := by decide +kernel
theorem dX8_cell_0 : decode cX8_cell 0 = .ok (.aload_n 0, 1) := by decide +kernel
theorem dX8_cell_1 : decode cX8_cell 1 = .ok (.iload_n 1, 1) := by decide +kernel
theorem dX8_cell_2 : decode cX8_cell 2 = .ok (.iload_n 2, 1) := by decide +kernel
theorem dX8_cell_3 : decode cX8_cell 3 = .ok (.invokevirtual 81, 3) := by decide +kernel
theorem dX8_cell_6 : decode cX8_cell 6 = .ok (.ifCond .eq 10, 3) := by decide +kernel
theorem dX8_cell_9 : decode cX8_cell 9 = .ok (.iload_n 3, 1) := by decide +kernel
theorem dX8_cell_10 : decode cX8_cell 10 = .ok (.invokestatic 93, 3) := by decide +kernel
theorem dX8_cell_13 : decode cX8_cell 13 = .ok (.ifCond .ne 6, 3) := by decide +kernel
theorem dX8_cell_16 : decode cX8_cell 16 = .ok (.ldc 96, 2) := by decide +kernel
theorem dX8_cell_18 : decode cX8_cell 18 = .ok (.ireturn, 1) := by decide +kernel
theorem dX8_cell_19 : decode cX8_cell 19 = .ok (.aload_n 0, 1) := by decide +kernel
theorem dX8_cell_20 : decode cX8_cell 20 = .ok (.getfield 12, 3) := by decide +kernel
theorem dX8_cell_23 : decode cX8_cell 23 = .ok (.getfield 71, 3) := by decide +kernel
theorem dX8_cell_26 : decode cX8_cell 26 = .ok (.iload_n 1, 1) := by decide +kernel
theorem dX8_cell_27 : decode cX8_cell 27 = .ok (.aaload, 1) := by decide +kernel
theorem dX8_cell_28 : decode cX8_cell 28 = .ok (.getfield 97, 3) := by decide +kernel
theorem dX8_cell_31 : decode cX8_cell 31 = .ok (.iload_n 2, 1) := by decide +kernel
theorem dX8_cell_32 : decode cX8_cell 32 = .ok (.aaload, 1) := by decide +kernel
theorem dX8_cell_33 : decode cX8_cell 33 = .ok (.iload_n 3, 1) := by decide +kernel
theorem dX8_cell_34 : decode cX8_cell 34 = .ok (.iaload, 1) := by decide +kernel
theorem dX8_cell_35 : decode cX8_cell 35 = .ok (.ireturn, 1) := by decide +kernel
theorem dX8_summary_0 : decode cX8_summary 0 = .ok (.iload_n 1, 1) := by decide +kernel
theorem dX8_summary_1 : decode cX8_summary 1 = .ok (.invokestatic 64, 3) := by decide +kernel
theorem dX8_summary_4 : decode cX8_summary 4 = .ok (.ifCond .eq 10, 3) := by decide +kernel
theorem dX8_summary_7 : decode cX8_summary 7 = .ok (.iload_n 2, 1) := by decide +kernel
theorem dX8_summary_8 : decode cX8_summary 8 = .ok (.invokestatic 93, 3) := by decide +kernel
theorem dX8_summary_11 : decode cX8_summary 11 = .ok (.ifCond .ne 6, 3) := by decide +kernel
theorem dX8_summary_14 : decode cX8_summary 14 = .ok (.ldc 96, 2) := by decide +kernel
theorem dX8_summary_16 : decode cX8_summary 16 = .ok (.ireturn, 1) := by decide +kernel
theorem dX8_summary_17 : decode cX8_summary 17 = .ok (.aload_n 0, 1) := by decide +kernel
theorem dX8_summary_18 : decode cX8_summary 18 = .ok (.getfield 12, 3) := by decide +kernel
theorem dX8_summary_21 : decode cX8_summary 21 = .ok (.getfield 71, 3) := by decide +kernel
theorem dX8_summary_24 : decode cX8_summary 24 = .ok (.iload_n 1, 1) := by decide +kernel
theorem dX8_summary_25 : decode cX8_summary 25 = .ok (.aaload, 1) := by decide +kernel
theorem dX8_summary_26 : decode cX8_summary 26 = .ok (.getfield 101, 3) := by decide +kernel
theorem dX8_summary_29 : decode cX8_summary 29 = .ok (.iload_n 2, 1) := by decide +kernel
theorem dX8_summary_30 : decode cX8_summary 30 = .ok (.aaload, 1) := by decide +kernel
theorem dX8_summary_31 : decode cX8_summary 31 = .ok (.astore 4, 2) := by decide +kernel
theorem dX8_summary_33 : decode cX8_summary 33 = .ok (.iload_n 3, 1) := by decide +kernel
theorem dX8_summary_34 : decode cX8_summary 34 = .ok (.tableswitch 93 0 4 #[34, 40, 46, 52, 71], 34) := by decide +kernel
theorem dX8_summary_68 : decode cX8_summary 68 = .ok (.aload 4, 2) := by decide +kernel
theorem dX8_summary_70 : decode cX8_summary 70 = .ok (.getfield 105, 3) := by decide +kernel
theorem dX8_summary_73 : decode cX8_summary 73 = .ok (.ireturn, 1) := by decide +kernel
theorem dX8_summary_74 : decode cX8_summary 74 = .ok (.aload 4, 2) := by decide +kernel
theorem dX8_summary_76 : decode cX8_summary 76 = .ok (.getfield 111, 3) := by decide +kernel
theorem dX8_summary_79 : decode cX8_summary 79 = .ok (.ireturn, 1) := by decide +kernel
theorem dX8_summary_80 : decode cX8_summary 80 = .ok (.aload 4, 2) := by decide +kernel
theorem dX8_summary_82 : decode cX8_summary 82 = .ok (.getfield 114, 3) := by decide +kernel
theorem dX8_summary_85 : decode cX8_summary 85 = .ok (.ireturn, 1) := by decide +kernel
theorem dX8_summary_86 : decode cX8_summary 86 = .ok (.aload 4, 2) := by decide +kernel
theorem dX8_summary_88 : decode cX8_summary 88 = .ok (.getfield 117, 3) := by decide +kernel
theorem dX8_summary_91 : decode cX8_summary 91 = .ok (.ifCond .eq 8, 3) := by decide +kernel
theorem dX8_summary_94 : decode cX8_summary 94 = .ok (.ldc 121, 2) := by decide +kernel
theorem dX8_summary_96 : decode cX8_summary 96 = .ok (.goto 8, 3) := by decide +kernel
theorem dX8_summary_99 : decode cX8_summary 99 = .ok (.aload 4, 2) := by decide +kernel
theorem dX8_summary_101 : decode cX8_summary 101 = .ok (.getfield 122, 3) := by decide +kernel
theorem dX8_summary_104 : decode cX8_summary 104 = .ok (.ireturn, 1) := by decide +kernel
theorem dX8_summary_105 : decode cX8_summary 105 = .ok (.aload_n 0, 1) := by decide +kernel
theorem dX8_summary_106 : decode cX8_summary 106 = .ok (.getfield 12, 3) := by decide +kernel
theorem dX8_summary_109 : decode cX8_summary 109 = .ok (.getfield 71, 3) := by decide +kernel
theorem dX8_summary_112 : decode cX8_summary 112 = .ok (.iload_n 1, 1) := by decide +kernel
theorem dX8_summary_113 : decode cX8_summary 113 = .ok (.aaload, 1) := by decide +kernel
theorem dX8_summary_114 : decode cX8_summary 114 = .ok (.iload_n 2, 1) := by decide +kernel
theorem dX8_summary_115 : decode cX8_summary 115 = .ok (.invokevirtual 125, 3) := by decide +kernel
theorem dX8_summary_118 : decode cX8_summary 118 = .ok (.ifCond .eq 7, 3) := by decide +kernel
theorem dX8_summary_121 : decode cX8_summary 121 = .ok (.iconst 1, 1) := by decide +kernel
theorem dX8_summary_122 : decode cX8_summary 122 = .ok (.goto 4, 3) := by decide +kernel
theorem dX8_summary_125 : decode cX8_summary 125 = .ok (.iconst 0, 1) := by decide +kernel
theorem dX8_summary_126 : decode cX8_summary 126 = .ok (.ireturn, 1) := by decide +kernel
theorem dX8_summary_127 : decode cX8_summary 127 = .ok (.ldc 128, 2) := by decide +kernel
theorem dX8_summary_129 : decode cX8_summary 129 = .ok (.ireturn, 1) := by decide +kernel
theorem dX8_listed_0 : decode cX8_listed 0 = .ok (.iload_n 1, 1) := by decide +kernel
theorem dX8_listed_1 : decode cX8_listed 1 = .ok (.invokestatic 64, 3) := by decide +kernel
theorem dX8_listed_4 : decode cX8_listed 4 = .ok (.ifCond .eq 10, 3) := by decide +kernel
theorem dX8_listed_7 : decode cX8_listed 7 = .ok (.iload_n 2, 1) := by decide +kernel
theorem dX8_listed_8 : decode cX8_listed 8 = .ok (.invokestatic 93, 3) := by decide +kernel
theorem dX8_listed_11 : decode cX8_listed 11 = .ok (.ifCond .ne 6, 3) := by decide +kernel
theorem dX8_listed_14 : decode cX8_listed 14 = .ok (.ldc 96, 2) := by decide +kernel
theorem dX8_listed_16 : decode cX8_listed 16 = .ok (.ireturn, 1) := by decide +kernel
theorem dX8_listed_17 : decode cX8_listed 17 = .ok (.iload 4, 2) := by decide +kernel
theorem dX8_listed_19 : decode cX8_listed 19 = .ok (.ifCond .eq 12, 3) := by decide +kernel
theorem dX8_listed_22 : decode cX8_listed 22 = .ok (.iload 4, 2) := by decide +kernel
theorem dX8_listed_24 : decode cX8_listed 24 = .ok (.iconst 1, 1) := by decide +kernel
theorem dX8_listed_25 : decode cX8_listed 25 = .ok (.if_icmp .eq 6, 3) := by decide +kernel
theorem dX8_listed_28 : decode cX8_listed 28 = .ok (.ldc 128, 2) := by decide +kernel
theorem dX8_listed_30 : decode cX8_listed 30 = .ok (.ireturn, 1) := by decide +kernel
theorem dX8_listed_31 : decode cX8_listed 31 = .ok (.aload_n 0, 1) := by decide +kernel
theorem dX8_listed_32 : decode cX8_listed 32 = .ok (.getfield 12, 3) := by decide +kernel
theorem dX8_listed_35 : decode cX8_listed 35 = .ok (.getfield 71, 3) := by decide +kernel
theorem dX8_listed_38 : decode cX8_listed 38 = .ok (.iload_n 1, 1) := by decide +kernel
theorem dX8_listed_39 : decode cX8_listed 39 = .ok (.aaload, 1) := by decide +kernel
theorem dX8_listed_40 : decode cX8_listed 40 = .ok (.getfield 101, 3) := by decide +kernel
theorem dX8_listed_43 : decode cX8_listed 43 = .ok (.iload_n 2, 1) := by decide +kernel
theorem dX8_listed_44 : decode cX8_listed 44 = .ok (.aaload, 1) := by decide +kernel
theorem dX8_listed_45 : decode cX8_listed 45 = .ok (.astore 5, 2) := by decide +kernel
theorem dX8_listed_47 : decode cX8_listed 47 = .ok (.aload 5, 2) := by decide +kernel
theorem dX8_listed_49 : decode cX8_listed 49 = .ok (.getfield 117, 3) := by decide +kernel
theorem dX8_listed_52 : decode cX8_listed 52 = .ok (.ifCond .ne 16, 3) := by decide +kernel
theorem dX8_listed_55 : decode cX8_listed 55 = .ok (.iload_n 3, 1) := by decide +kernel
theorem dX8_listed_56 : decode cX8_listed 56 = .ok (.ifCond .lt 12, 3) := by decide +kernel
theorem dX8_listed_59 : decode cX8_listed 59 = .ok (.iload_n 3, 1) := by decide +kernel
theorem dX8_listed_60 : decode cX8_listed 60 = .ok (.aload 5, 2) := by decide +kernel
theorem dX8_listed_62 : decode cX8_listed 62 = .ok (.getfield 122, 3) := by decide +kernel
theorem dX8_listed_65 : decode cX8_listed 65 = .ok (.if_icmp .lt 6, 3) := by decide +kernel
theorem dX8_listed_68 : decode cX8_listed 68 = .ok (.ldc 121, 2) := by decide +kernel
theorem dX8_listed_70 : decode cX8_listed 70 = .ok (.ireturn, 1) := by decide +kernel
theorem dX8_listed_71 : decode cX8_listed 71 = .ok (.iload 4, 2) := by decide +kernel
theorem dX8_listed_73 : decode cX8_listed 73 = .ok (.ifCond .ne 13, 3) := by decide +kernel
theorem dX8_listed_76 : decode cX8_listed 76 = .ok (.aload 5, 2) := by decide +kernel
theorem dX8_listed_78 : decode cX8_listed 78 = .ok (.getfield 129, 3) := by decide +kernel
theorem dX8_listed_81 : decode cX8_listed 81 = .ok (.iload_n 3, 1) := by decide +kernel
theorem dX8_listed_82 : decode cX8_listed 82 = .ok (.iaload, 1) := by decide +kernel
theorem dX8_listed_83 : decode cX8_listed 83 = .ok (.goto 10, 3) := by decide +kernel
theorem dX8_listed_86 : decode cX8_listed 86 = .ok (.aload 5, 2) := by decide +kernel
theorem dX8_listed_88 : decode cX8_listed 88 = .ok (.getfield 132, 3) := by decide +kernel
theorem dX8_listed_91 : decode cX8_listed 91 = .ok (.iload_n 3, 1) := by decide +kernel
theorem dX8_listed_92 : decode cX8_listed 92 = .ok (.iaload, 1) := by decide +kernel
theorem dX8_listed_93 : decode cX8_listed 93 = .ok (.ireturn, 1) := by decide +kernel
theorem dX8_say_0 : decode cX8_say 0 = .ok (.iload_n 1, 1) := by decide +kernel
theorem dX8_say_1 : decode cX8_say 1 = .ok (.bipush 33, 2) := by decide +kernel
theorem dX8_say_3 : decode cX8_say 3 = .ok (.if_icmp .lt 9, 3) := by decide +kernel
theorem dX8_say_6 : decode cX8_say 6 = .ok (.iload_n 1, 1) := by decide +kernel
theorem dX8_say_7 : decode cX8_say 7 = .ok (.bipush 126, 2) := by decide +kernel
theorem dX8_say_9 : decode cX8_say 9 = .ok (.if_icmp .le 6, 3) := by decide +kernel
theorem dX8_say_12 : decode cX8_say 12 = .ok (.bipush (-2), 2) := by decide +kernel
theorem dX8_say_14 : decode cX8_say 14 = .ok (.ireturn, 1) := by decide +kernel
theorem dX8_say_15 : decode cX8_say 15 = .ok (.aload_n 0, 1) := by decide +kernel
theorem dX8_say_16 : decode cX8_say 16 = .ok (.getfield 23, 3) := by decide +kernel
theorem dX8_say_19 : decode cX8_say 19 = .ok (.iload_n 1, 1) := by decide +kernel
theorem dX8_say_20 : decode cX8_say 20 = .ok (.invokevirtual 135, 3) := by decide +kernel
theorem dX8_say_23 : decode cX8_say 23 = .ok (.ireturn, 1) := by decide +kernel
theorem dX8_wipe_0 : decode cX8_wipe 0 = .ok (.aload_n 0, 1) := by decide +kernel
theorem dX8_wipe_1 : decode cX8_wipe 1 = .ok (.getfield 23, 3) := by decide +kernel
theorem dX8_wipe_4 : decode cX8_wipe 4 = .ok (.getfield 137, 3) := by decide +kernel
theorem dX8_wipe_7 : decode cX8_wipe 7 = .ok (.istore_n 1, 1) := by decide +kernel
theorem dX8_wipe_8 : decode cX8_wipe 8 = .ok (.aload_n 0, 1) := by decide +kernel
theorem dX8_wipe_9 : decode cX8_wipe 9 = .ok (.getfield 23, 3) := by decide +kernel
theorem dX8_wipe_12 : decode cX8_wipe 12 = .ok (.invokevirtual 138, 3) := by decide +kernel
theorem dX8_wipe_15 : decode cX8_wipe 15 = .ok (.iload_n 1, 1) := by decide +kernel
theorem dX8_wipe_16 : decode cX8_wipe 16 = .ok (.ireturn, 1) := by decide +kernel
theorem dX8_fault_0 : decode cX8_fault 0 = .ok (.aload_n 0, 1) := by decide +kernel
theorem dX8_fault_1 : decode cX8_fault 1 = .ok (.getfield 23, 3) := by decide +kernel
theorem dX8_fault_4 : decode cX8_fault 4 = .ok (.invokevirtual 141, 3) := by decide +kernel
theorem dX8_fault_7 : decode cX8_fault 7 = .ok (.ireturn, 1) := by decide +kernel
theorem dX8_truth_0 : decode cX8_truth 0 = .ok (.aload_n 0, 1) := by decide +kernel
theorem dX8_truth_1 : decode cX8_truth 1 = .ok (.iload_n 1, 1) := by decide +kernel
theorem dX8_truth_2 : decode cX8_truth 2 = .ok (.iload_n 2, 1) := by decide +kernel
theorem dX8_truth_3 : decode cX8_truth 3 = .ok (.invokevirtual 81, 3) := by decide +kernel
theorem dX8_truth_6 : decode cX8_truth 6 = .ok (.ifCond .ne 5, 3) := by decide +kernel
theorem dX8_truth_9 : decode cX8_truth 9 = .ok (.iconst (-1), 1) := by decide +kernel
theorem dX8_truth_10 : decode cX8_truth 10 = .ok (.ireturn, 1) := by decide +kernel
theorem dX8_truth_11 : decode cX8_truth 11 = .ok (.aload_n 0, 1) := by decide +kernel
theorem dX8_truth_12 : decode cX8_truth 12 = .ok (.getfield 23, 3) := by decide +kernel
theorem dX8_truth_15 : decode cX8_truth 15 = .ok (.invokevirtual 144, 3) := by decide +kernel
theorem dX8_truth_18 : decode cX8_truth 18 = .ok (.ifCond .eq 6, 3) := by decide +kernel
theorem dX8_truth_21 : decode cX8_truth 21 = .ok (.bipush (-5), 2) := by decide +kernel
theorem dX8_truth_23 : decode cX8_truth 23 = .ok (.ireturn, 1) := by decide +kernel
theorem dX8_truth_24 : decode cX8_truth 24 = .ok (.aload_n 0, 1) := by decide +kernel
theorem dX8_truth_25 : decode cX8_truth 25 = .ok (.getfield 32, 3) := by decide +kernel
theorem dX8_truth_28 : decode cX8_truth 28 = .ok (.aload_n 0, 1) := by decide +kernel
theorem dX8_truth_29 : decode cX8_truth 29 = .ok (.getfield 12, 3) := by decide +kernel
theorem dX8_truth_32 : decode cX8_truth 32 = .ok (.getfield 71, 3) := by decide +kernel
theorem dX8_truth_35 : decode cX8_truth 35 = .ok (.iload_n 1, 1) := by decide +kernel
theorem dX8_truth_36 : decode cX8_truth 36 = .ok (.aaload, 1) := by decide +kernel
theorem dX8_truth_37 : decode cX8_truth 37 = .ok (.getfield 97, 3) := by decide +kernel
theorem dX8_truth_40 : decode cX8_truth 40 = .ok (.iload_n 2, 1) := by decide +kernel
theorem dX8_truth_41 : decode cX8_truth 41 = .ok (.aaload, 1) := by decide +kernel
theorem dX8_truth_42 : decode cX8_truth 42 = .ok (.invokevirtual 148, 3) := by decide +kernel
theorem dX8_truth_45 : decode cX8_truth 45 = .ok (.ireturn, 1) := by decide +kernel
theorem dX8_range_0 : decode cX8_range 0 = .ok (.iload_n 1, 1) := by decide +kernel
theorem dX8_range_1 : decode cX8_range 1 = .ok (.invokestatic 64, 3) := by decide +kernel
theorem dX8_range_4 : decode cX8_range 4 = .ok (.ifCond .ne 6, 3) := by decide +kernel
theorem dX8_range_7 : decode cX8_range 7 = .ok (.ldc 96, 2) := by decide +kernel
theorem dX8_range_9 : decode cX8_range 9 = .ok (.ireturn, 1) := by decide +kernel
theorem dX8_range_10 : decode cX8_range 10 = .ok (.aload_n 0, 1) := by decide +kernel
theorem dX8_range_11 : decode cX8_range 11 = .ok (.iload_n 2, 1) := by decide +kernel
theorem dX8_range_12 : decode cX8_range 12 = .ok (.invokevirtual 152, 3) := by decide +kernel
theorem dX8_range_15 : decode cX8_range 15 = .ok (.ifCond .eq 12, 3) := by decide +kernel
theorem dX8_range_18 : decode cX8_range 18 = .ok (.iload_n 3, 1) := by decide +kernel
theorem dX8_range_19 : decode cX8_range 19 = .ok (.ifCond .lt 8, 3) := by decide +kernel
theorem dX8_range_22 : decode cX8_range 22 = .ok (.iload_n 3, 1) := by decide +kernel
theorem dX8_range_23 : decode cX8_range 23 = .ok (.iconst 2, 1) := by decide +kernel
theorem dX8_range_24 : decode cX8_range 24 = .ok (.if_icmp .le 6, 3) := by decide +kernel
theorem dX8_range_27 : decode cX8_range 27 = .ok (.ldc 128, 2) := by decide +kernel
theorem dX8_range_29 : decode cX8_range 29 = .ok (.ireturn, 1) := by decide +kernel
theorem dX8_range_30 : decode cX8_range 30 = .ok (.aload_n 0, 1) := by decide +kernel
theorem dX8_range_31 : decode cX8_range 31 = .ok (.getfield 23, 3) := by decide +kernel
theorem dX8_range_34 : decode cX8_range 34 = .ok (.invokevirtual 144, 3) := by decide +kernel
theorem dX8_range_37 : decode cX8_range 37 = .ok (.ifCond .eq 6, 3) := by decide +kernel
theorem dX8_range_40 : decode cX8_range 40 = .ok (.ldc 155, 2) := by decide +kernel
theorem dX8_range_42 : decode cX8_range 42 = .ok (.ireturn, 1) := by decide +kernel
theorem dX8_range_43 : decode cX8_range 43 = .ok (.aload_n 0, 1) := by decide +kernel
theorem dX8_range_44 : decode cX8_range 44 = .ok (.getfield 12, 3) := by decide +kernel
theorem dX8_range_47 : decode cX8_range 47 = .ok (.getfield 71, 3) := by decide +kernel
theorem dX8_range_50 : decode cX8_range 50 = .ok (.iload_n 1, 1) := by decide +kernel
theorem dX8_range_51 : decode cX8_range 51 = .ok (.aaload, 1) := by decide +kernel
theorem dX8_range_52 : decode cX8_range 52 = .ok (.getfield 156, 3) := by decide +kernel
theorem dX8_range_55 : decode cX8_range 55 = .ok (.ifCond .eq 16, 3) := by decide +kernel
theorem dX8_range_58 : decode cX8_range 58 = .ok (.aload_n 0, 1) := by decide +kernel
theorem dX8_range_59 : decode cX8_range 59 = .ok (.getfield 23, 3) := by decide +kernel
theorem dX8_range_62 : decode cX8_range 62 = .ok (.getfield 159, 3) := by decide +kernel
theorem dX8_range_65 : decode cX8_range 65 = .ok (.iload_n 2, 1) := by decide +kernel
theorem dX8_range_66 : decode cX8_range 66 = .ok (.iaload, 1) := by decide +kernel
theorem dX8_range_67 : decode cX8_range 67 = .ok (.iconst 2, 1) := by decide +kernel
theorem dX8_range_68 : decode cX8_range 68 = .ok (.if_icmp .eq 6, 3) := by decide +kernel
theorem dX8_range_71 : decode cX8_range 71 = .ok (.ldc 162, 2) := by decide +kernel
theorem dX8_range_73 : decode cX8_range 73 = .ok (.ireturn, 1) := by decide +kernel
theorem dX8_range_74 : decode cX8_range 74 = .ok (.aload_n 0, 1) := by decide +kernel
theorem dX8_range_75 : decode cX8_range 75 = .ok (.getfield 39, 3) := by decide +kernel
theorem dX8_range_78 : decode cX8_range 78 = .ok (.aload_n 0, 1) := by decide +kernel
theorem dX8_range_79 : decode cX8_range 79 = .ok (.getfield 12, 3) := by decide +kernel
theorem dX8_range_82 : decode cX8_range 82 = .ok (.getfield 71, 3) := by decide +kernel
theorem dX8_range_85 : decode cX8_range 85 = .ok (.iload_n 1, 1) := by decide +kernel
theorem dX8_range_86 : decode cX8_range 86 = .ok (.aaload, 1) := by decide +kernel
theorem dX8_range_87 : decode cX8_range 87 = .ok (.invokevirtual 163, 3) := by decide +kernel
theorem dX8_range_90 : decode cX8_range 90 = .ok (.iload_n 3, 1) := by decide +kernel
theorem dX8_range_91 : decode cX8_range 91 = .ok (.ifCond .ne 13, 3) := by decide +kernel
theorem dX8_range_94 : decode cX8_range 94 = .ok (.aload_n 0, 1) := by decide +kernel
theorem dX8_range_95 : decode cX8_range 95 = .ok (.getfield 39, 3) := by decide +kernel
theorem dX8_range_98 : decode cX8_range 98 = .ok (.getfield 166, 3) := by decide +kernel
theorem dX8_range_101 : decode cX8_range 101 = .ok (.iload_n 2, 1) := by decide +kernel
theorem dX8_range_102 : decode cX8_range 102 = .ok (.iaload, 1) := by decide +kernel
theorem dX8_range_103 : decode cX8_range 103 = .ok (.ireturn, 1) := by decide +kernel
theorem dX8_range_104 : decode cX8_range 104 = .ok (.iload_n 3, 1) := by decide +kernel
theorem dX8_range_105 : decode cX8_range 105 = .ok (.iconst 1, 1) := by decide +kernel
theorem dX8_range_106 : decode cX8_range 106 = .ok (.if_icmp .ne 15, 3) := by decide +kernel
theorem dX8_range_109 : decode cX8_range 109 = .ok (.aload_n 0, 1) := by decide +kernel
theorem dX8_range_110 : decode cX8_range 110 = .ok (.getfield 39, 3) := by decide +kernel
theorem dX8_range_113 : decode cX8_range 113 = .ok (.getfield 169, 3) := by decide +kernel
theorem dX8_range_116 : decode cX8_range 116 = .ok (.iload_n 2, 1) := by decide +kernel
theorem dX8_range_117 : decode cX8_range 117 = .ok (.iaload, 1) := by decide +kernel
theorem dX8_range_118 : decode cX8_range 118 = .ok (.goto 12, 3) := by decide +kernel
theorem dX8_range_121 : decode cX8_range 121 = .ok (.aload_n 0, 1) := by decide +kernel
theorem dX8_range_122 : decode cX8_range 122 = .ok (.getfield 39, 3) := by decide +kernel
theorem dX8_range_125 : decode cX8_range 125 = .ok (.getfield 172, 3) := by decide +kernel
theorem dX8_range_128 : decode cX8_range 128 = .ok (.iload_n 2, 1) := by decide +kernel
theorem dX8_range_129 : decode cX8_range 129 = .ok (.iaload, 1) := by decide +kernel
theorem dX8_range_130 : decode cX8_range 130 = .ok (.ireturn, 1) := by decide +kernel
theorem dX8_may_0 : decode cX8_may 0 = .ok (.iload_n 1, 1) := by decide +kernel
theorem dX8_may_1 : decode cX8_may 1 = .ok (.invokestatic 64, 3) := by decide +kernel
theorem dX8_may_4 : decode cX8_may 4 = .ok (.ifCond .ne 5, 3) := by decide +kernel
theorem dX8_may_7 : decode cX8_may 7 = .ok (.iconst (-1), 1) := by decide +kernel
theorem dX8_may_8 : decode cX8_may 8 = .ok (.ireturn, 1) := by decide +kernel
theorem dX8_may_9 : decode cX8_may 9 = .ok (.aload_n 0, 1) := by decide +kernel
theorem dX8_may_10 : decode cX8_may 10 = .ok (.iload_n 2, 1) := by decide +kernel
theorem dX8_may_11 : decode cX8_may 11 = .ok (.invokevirtual 152, 3) := by decide +kernel
theorem dX8_may_14 : decode cX8_may 14 = .ok (.ifCond .ne 6, 3) := by decide +kernel
theorem dX8_may_17 : decode cX8_may 17 = .ok (.bipush (-2), 2) := by decide +kernel
theorem dX8_may_19 : decode cX8_may 19 = .ok (.ireturn, 1) := by decide +kernel
theorem dX8_may_20 : decode cX8_may 20 = .ok (.aload_n 0, 1) := by decide +kernel
theorem dX8_may_21 : decode cX8_may 21 = .ok (.getfield 23, 3) := by decide +kernel
theorem dX8_may_24 : decode cX8_may 24 = .ok (.invokevirtual 144, 3) := by decide +kernel
theorem dX8_may_27 : decode cX8_may 27 = .ok (.ifCond .eq 6, 3) := by decide +kernel
theorem dX8_may_30 : decode cX8_may 30 = .ok (.bipush (-5), 2) := by decide +kernel
theorem dX8_may_32 : decode cX8_may 32 = .ok (.ireturn, 1) := by decide +kernel
theorem dX8_may_33 : decode cX8_may 33 = .ok (.aload_n 0, 1) := by decide +kernel
theorem dX8_may_34 : decode cX8_may 34 = .ok (.getfield 12, 3) := by decide +kernel
theorem dX8_may_37 : decode cX8_may 37 = .ok (.getfield 71, 3) := by decide +kernel
theorem dX8_may_40 : decode cX8_may 40 = .ok (.iload_n 1, 1) := by decide +kernel
theorem dX8_may_41 : decode cX8_may 41 = .ok (.aaload, 1) := by decide +kernel
theorem dX8_may_42 : decode cX8_may 42 = .ok (.getfield 156, 3) := by decide +kernel
theorem dX8_may_45 : decode cX8_may 45 = .ok (.ifCond .eq 16, 3) := by decide +kernel
theorem dX8_may_48 : decode cX8_may 48 = .ok (.aload_n 0, 1) := by decide +kernel
theorem dX8_may_49 : decode cX8_may 49 = .ok (.getfield 23, 3) := by decide +kernel
theorem dX8_may_52 : decode cX8_may 52 = .ok (.getfield 159, 3) := by decide +kernel
theorem dX8_may_55 : decode cX8_may 55 = .ok (.iload_n 2, 1) := by decide +kernel
theorem dX8_may_56 : decode cX8_may 56 = .ok (.iaload, 1) := by decide +kernel
theorem dX8_may_57 : decode cX8_may 57 = .ok (.iconst 1, 1) := by decide +kernel
theorem dX8_may_58 : decode cX8_may 58 = .ok (.if_icmp .eq 6, 3) := by decide +kernel
theorem dX8_may_61 : decode cX8_may 61 = .ok (.bipush (-3), 2) := by decide +kernel
theorem dX8_may_63 : decode cX8_may 63 = .ok (.ireturn, 1) := by decide +kernel
theorem dX8_may_64 : decode cX8_may 64 = .ok (.aload_n 0, 1) := by decide +kernel
theorem dX8_may_65 : decode cX8_may 65 = .ok (.getfield 39, 3) := by decide +kernel
theorem dX8_may_68 : decode cX8_may 68 = .ok (.aload_n 0, 1) := by decide +kernel
theorem dX8_may_69 : decode cX8_may 69 = .ok (.getfield 12, 3) := by decide +kernel
theorem dX8_may_72 : decode cX8_may 72 = .ok (.getfield 71, 3) := by decide +kernel
theorem dX8_may_75 : decode cX8_may 75 = .ok (.iload_n 1, 1) := by decide +kernel
theorem dX8_may_76 : decode cX8_may 76 = .ok (.aaload, 1) := by decide +kernel
theorem dX8_may_77 : decode cX8_may 77 = .ok (.invokevirtual 163, 3) := by decide +kernel
theorem dX8_may_80 : decode cX8_may 80 = .ok (.aload_n 0, 1) := by decide +kernel
theorem dX8_may_81 : decode cX8_may 81 = .ok (.getfield 39, 3) := by decide +kernel
theorem dX8_may_84 : decode cX8_may 84 = .ok (.getfield 166, 3) := by decide +kernel
theorem dX8_may_87 : decode cX8_may 87 = .ok (.iload_n 2, 1) := by decide +kernel
theorem dX8_may_88 : decode cX8_may 88 = .ok (.iaload, 1) := by decide +kernel
theorem dX8_may_89 : decode cX8_may 89 = .ok (.ireturn, 1) := by decide +kernel
theorem dX8_verdict_0 : decode cX8_verdict 0 = .ok (.iload_n 1, 1) := by decide +kernel
theorem dX8_verdict_1 : decode cX8_verdict 1 = .ok (.invokestatic 64, 3) := by decide +kernel
theorem dX8_verdict_4 : decode cX8_verdict 4 = .ok (.ifCond .ne 5, 3) := by decide +kernel
theorem dX8_verdict_7 : decode cX8_verdict 7 = .ok (.iconst (-1), 1) := by decide +kernel
theorem dX8_verdict_8 : decode cX8_verdict 8 = .ok (.ireturn, 1) := by decide +kernel
theorem dX8_verdict_9 : decode cX8_verdict 9 = .ok (.iload_n 2, 1) := by decide +kernel
theorem dX8_verdict_10 : decode cX8_verdict 10 = .ok (.ifCond .eq 11, 3) := by decide +kernel
theorem dX8_verdict_13 : decode cX8_verdict 13 = .ok (.iload_n 2, 1) := by decide +kernel
theorem dX8_verdict_14 : decode cX8_verdict 14 = .ok (.iconst 1, 1) := by decide +kernel
theorem dX8_verdict_15 : decode cX8_verdict 15 = .ok (.if_icmp .eq 6, 3) := by decide +kernel
theorem dX8_verdict_18 : decode cX8_verdict 18 = .ok (.bipush (-2), 2) := by decide +kernel
theorem dX8_verdict_20 : decode cX8_verdict 20 = .ok (.ireturn, 1) := by decide +kernel
theorem dX8_verdict_21 : decode cX8_verdict 21 = .ok (.aload_n 0, 1) := by decide +kernel
theorem dX8_verdict_22 : decode cX8_verdict 22 = .ok (.getfield 23, 3) := by decide +kernel
theorem dX8_verdict_25 : decode cX8_verdict 25 = .ok (.invokevirtual 144, 3) := by decide +kernel
theorem dX8_verdict_28 : decode cX8_verdict 28 = .ok (.ifCond .eq 6, 3) := by decide +kernel
theorem dX8_verdict_31 : decode cX8_verdict 31 = .ok (.bipush (-5), 2) := by decide +kernel
theorem dX8_verdict_33 : decode cX8_verdict 33 = .ok (.ireturn, 1) := by decide +kernel
theorem dX8_verdict_34 : decode cX8_verdict 34 = .ok (.aload_n 0, 1) := by decide +kernel
theorem dX8_verdict_35 : decode cX8_verdict 35 = .ok (.aload_n 0, 1) := by decide +kernel
theorem dX8_verdict_36 : decode cX8_verdict 36 = .ok (.getfield 12, 3) := by decide +kernel
theorem dX8_verdict_39 : decode cX8_verdict 39 = .ok (.getfield 71, 3) := by decide +kernel
theorem dX8_verdict_42 : decode cX8_verdict 42 = .ok (.iload_n 1, 1) := by decide +kernel
theorem dX8_verdict_43 : decode cX8_verdict 43 = .ok (.aaload, 1) := by decide +kernel
theorem dX8_verdict_44 : decode cX8_verdict 44 = .ok (.invokevirtual 175, 3) := by decide +kernel
theorem dX8_verdict_47 : decode cX8_verdict 47 = .ok (.istore_n 3, 1) := by decide +kernel
theorem dX8_verdict_48 : decode cX8_verdict 48 = .ok (.iload_n 2, 1) := by decide +kernel
theorem dX8_verdict_49 : decode cX8_verdict 49 = .ok (.ifCond .ne 10, 3) := by decide +kernel
theorem dX8_verdict_52 : decode cX8_verdict 52 = .ok (.iload_n 3, 1) := by decide +kernel
theorem dX8_verdict_53 : decode cX8_verdict 53 = .ok (.invokestatic 179, 3) := by decide +kernel
theorem dX8_verdict_56 : decode cX8_verdict 56 = .ok (.goto 4, 3) := by decide +kernel
theorem dX8_verdict_59 : decode cX8_verdict 59 = .ok (.iload_n 3, 1) := by decide +kernel
theorem dX8_verdict_60 : decode cX8_verdict 60 = .ok (.ireturn, 1) := by decide +kernel
theorem dX8_answer_0 : decode cX8_answer 0 = .ok (.iload_n 1, 1) := by decide +kernel
theorem dX8_answer_1 : decode cX8_answer 1 = .ok (.ifCond .lt 8, 3) := by decide +kernel
theorem dX8_answer_4 : decode cX8_answer 4 = .ok (.iload_n 1, 1) := by decide +kernel
theorem dX8_answer_5 : decode cX8_answer 5 = .ok (.iconst 5, 1) := by decide +kernel
theorem dX8_answer_6 : decode cX8_answer 6 = .ok (.if_icmp .le 6, 3) := by decide +kernel
theorem dX8_answer_9 : decode cX8_answer 9 = .ok (.bipush (-2), 2) := by decide +kernel
theorem dX8_answer_11 : decode cX8_answer 11 = .ok (.ireturn, 1) := by decide +kernel
theorem dX8_answer_12 : decode cX8_answer 12 = .ok (.aload_n 0, 1) := by decide +kernel
theorem dX8_answer_13 : decode cX8_answer 13 = .ok (.getfield 23, 3) := by decide +kernel
theorem dX8_answer_16 : decode cX8_answer 16 = .ok (.invokevirtual 144, 3) := by decide +kernel
theorem dX8_answer_19 : decode cX8_answer 19 = .ok (.ifCond .eq 6, 3) := by decide +kernel
theorem dX8_answer_22 : decode cX8_answer 22 = .ok (.bipush (-5), 2) := by decide +kernel
theorem dX8_answer_24 : decode cX8_answer 24 = .ok (.ireturn, 1) := by decide +kernel
theorem dX8_answer_25 : decode cX8_answer 25 = .ok (.iload_n 1, 1) := by decide +kernel
theorem dX8_answer_26 : decode cX8_answer 26 = .ok (.tableswitch 45 0 2 #[26, 31, 36], 26) := by decide +kernel
theorem dX8_answer_52 : decode cX8_answer 52 = .ok (.aload_n 0, 1) := by decide +kernel
theorem dX8_answer_53 : decode cX8_answer 53 = .ok (.invokevirtual 182, 3) := by decide +kernel
theorem dX8_answer_56 : decode cX8_answer 56 = .ok (.ireturn, 1) := by decide +kernel
theorem dX8_answer_57 : decode cX8_answer 57 = .ok (.aload_n 0, 1) := by decide +kernel
theorem dX8_answer_58 : decode cX8_answer 58 = .ok (.invokevirtual 185, 3) := by decide +kernel
theorem dX8_answer_61 : decode cX8_answer 61 = .ok (.ireturn, 1) := by decide +kernel
theorem dX8_answer_62 : decode cX8_answer 62 = .ok (.aload_n 0, 1) := by decide +kernel
theorem dX8_answer_63 : decode cX8_answer 63 = .ok (.invokevirtual 188, 3) := by decide +kernel
theorem dX8_answer_66 : decode cX8_answer 66 = .ok (.aload_n 0, 1) := by decide +kernel
theorem dX8_answer_67 : decode cX8_answer 67 = .ok (.invokevirtual 191, 3) := by decide +kernel
theorem dX8_answer_70 : decode cX8_answer 70 = .ok (.ireturn, 1) := by decide +kernel
theorem dX8_answer_71 : decode cX8_answer 71 = .ok (.aload_n 0, 1) := by decide +kernel
theorem dX8_answer_72 : decode cX8_answer 72 = .ok (.invokevirtual 188, 3) := by decide +kernel
theorem dX8_answer_75 : decode cX8_answer 75 = .ok (.aload_n 0, 1) := by decide +kernel
theorem dX8_answer_76 : decode cX8_answer 76 = .ok (.iload_n 1, 1) := by decide +kernel
theorem dX8_answer_77 : decode cX8_answer 77 = .ok (.iconst 3, 1) := by decide +kernel
theorem dX8_answer_78 : decode cX8_answer 78 = .ok (.isub, 1) := by decide +kernel
theorem dX8_answer_79 : decode cX8_answer 79 = .ok (.invokevirtual 194, 3) := by decide +kernel
theorem dX8_answer_82 : decode cX8_answer 82 = .ok (.ireturn, 1) := by decide +kernel
theorem dX8_total_0 : decode cX8_total 0 = .ok (.iload_n 1, 1) := by decide +kernel
theorem dX8_total_1 : decode cX8_total 1 = .ok (.invokestatic 93, 3) := by decide +kernel
theorem dX8_total_4 : decode cX8_total 4 = .ok (.ifCond .ne 6, 3) := by decide +kernel
theorem dX8_total_7 : decode cX8_total 7 = .ok (.ldc 96, 2) := by decide +kernel
theorem dX8_total_9 : decode cX8_total 9 = .ok (.ireturn, 1) := by decide +kernel
theorem dX8_total_10 : decode cX8_total 10 = .ok (.iload_n 2, 1) := by decide +kernel
theorem dX8_total_11 : decode cX8_total 11 = .ok (.ifCond .lt 8, 3) := by decide +kernel
theorem dX8_total_14 : decode cX8_total 14 = .ok (.iload_n 2, 1) := by decide +kernel
theorem dX8_total_15 : decode cX8_total 15 = .ok (.iconst 4, 1) := by decide +kernel
theorem dX8_total_16 : decode cX8_total 16 = .ok (.if_icmp .le 6, 3) := by decide +kernel
theorem dX8_total_19 : decode cX8_total 19 = .ok (.ldc 128, 2) := by decide +kernel
theorem dX8_total_21 : decode cX8_total 21 = .ok (.ireturn, 1) := by decide +kernel
theorem dX8_total_22 : decode cX8_total 22 = .ok (.aload_n 0, 1) := by decide +kernel
theorem dX8_total_23 : decode cX8_total 23 = .ok (.getfield 23, 3) := by decide +kernel
theorem dX8_total_26 : decode cX8_total 26 = .ok (.invokevirtual 144, 3) := by decide +kernel
theorem dX8_total_29 : decode cX8_total 29 = .ok (.ifCond .eq 6, 3) := by decide +kernel
theorem dX8_total_32 : decode cX8_total 32 = .ok (.ldc 155, 2) := by decide +kernel
theorem dX8_total_34 : decode cX8_total 34 = .ok (.ireturn, 1) := by decide +kernel
theorem dX8_total_35 : decode cX8_total 35 = .ok (.iload_n 2, 1) := by decide +kernel
theorem dX8_total_36 : decode cX8_total 36 = .ok (.iconst 4, 1) := by decide +kernel
theorem dX8_total_37 : decode cX8_total 37 = .ok (.if_icmp .ne 13, 3) := by decide +kernel
theorem dX8_total_40 : decode cX8_total 40 = .ok (.aload_n 0, 1) := by decide +kernel
theorem dX8_total_41 : decode cX8_total 41 = .ok (.invokevirtual 188, 3) := by decide +kernel
theorem dX8_total_44 : decode cX8_total 44 = .ok (.aload_n 0, 1) := by decide +kernel
theorem dX8_total_45 : decode cX8_total 45 = .ok (.iload_n 1, 1) := by decide +kernel
theorem dX8_total_46 : decode cX8_total 46 = .ok (.invokevirtual 197, 3) := by decide +kernel
theorem dX8_total_49 : decode cX8_total 49 = .ok (.ireturn, 1) := by decide +kernel
theorem dX8_total_50 : decode cX8_total 50 = .ok (.aload_n 0, 1) := by decide +kernel
theorem dX8_total_51 : decode cX8_total 51 = .ok (.iload_n 1, 1) := by decide +kernel
theorem dX8_total_52 : decode cX8_total 52 = .ok (.invokevirtual 200, 3) := by decide +kernel
theorem dX8_total_55 : decode cX8_total 55 = .ok (.iload_n 2, 1) := by decide +kernel
theorem dX8_total_56 : decode cX8_total 56 = .ok (.tableswitch 52 0 2 #[28, 36, 44], 28) := by decide +kernel
theorem dX8_total_84 : decode cX8_total 84 = .ok (.aload_n 0, 1) := by decide +kernel
theorem dX8_total_85 : decode cX8_total 85 = .ok (.getfield 60, 3) := by decide +kernel
theorem dX8_total_88 : decode cX8_total 88 = .ok (.getfield 204, 3) := by decide +kernel
theorem dX8_total_91 : decode cX8_total 91 = .ok (.ireturn, 1) := by decide +kernel
theorem dX8_total_92 : decode cX8_total 92 = .ok (.aload_n 0, 1) := by decide +kernel
theorem dX8_total_93 : decode cX8_total 93 = .ok (.getfield 60, 3) := by decide +kernel
theorem dX8_total_96 : decode cX8_total 96 = .ok (.getfield 205, 3) := by decide +kernel
theorem dX8_total_99 : decode cX8_total 99 = .ok (.ireturn, 1) := by decide +kernel
theorem dX8_total_100 : decode cX8_total 100 = .ok (.aload_n 0, 1) := by decide +kernel
theorem dX8_total_101 : decode cX8_total 101 = .ok (.getfield 60, 3) := by decide +kernel
theorem dX8_total_104 : decode cX8_total 104 = .ok (.getfield 206, 3) := by decide +kernel
theorem dX8_total_107 : decode cX8_total 107 = .ok (.ireturn, 1) := by decide +kernel
theorem dX8_total_108 : decode cX8_total 108 = .ok (.aload_n 0, 1) := by decide +kernel
theorem dX8_total_109 : decode cX8_total 109 = .ok (.getfield 60, 3) := by decide +kernel
theorem dX8_total_112 : decode cX8_total 112 = .ok (.getfield 209, 3) := by decide +kernel
theorem dX8_total_115 : decode cX8_total 115 = .ok (.ireturn, 1) := by decide +kernel
theorem dX8_image_0 : decode cX8_image 0 = .ok (.iload_n 1, 1) := by decide +kernel
theorem dX8_image_1 : decode cX8_image 1 = .ok (.invokestatic 210, 3) := by decide +kernel
theorem dX8_image_4 : decode cX8_image 4 = .ok (.ifCond .ne 6, 3) := by decide +kernel
theorem dX8_image_7 : decode cX8_image 7 = .ok (.bipush (-2), 2) := by decide +kernel
theorem dX8_image_9 : decode cX8_image 9 = .ok (.ireturn, 1) := by decide +kernel
theorem dX8_image_10 : decode cX8_image 10 = .ok (.aload_n 0, 1) := by decide +kernel
theorem dX8_image_11 : decode cX8_image 11 = .ok (.getfield 16, 3) := by decide +kernel
theorem dX8_image_14 : decode cX8_image 14 = .ok (.iload_n 1, 1) := by decide +kernel
theorem dX8_image_15 : decode cX8_image 15 = .ok (.aaload, 1) := by decide +kernel
theorem dX8_image_16 : decode cX8_image 16 = .ok (.ifnonnull 16, 3) := by decide +kernel
theorem dX8_image_19 : decode cX8_image 19 = .ok (.aload_n 0, 1) := by decide +kernel
theorem dX8_image_20 : decode cX8_image 20 = .ok (.getfield 16, 3) := by decide +kernel
theorem dX8_image_23 : decode cX8_image 23 = .ok (.iload_n 1, 1) := by decide +kernel
theorem dX8_image_24 : decode cX8_image 24 = .ok (.new 9, 3) := by decide +kernel
theorem dX8_image_27 : decode cX8_image 27 = .ok (.dup, 1) := by decide +kernel
theorem dX8_image_28 : decode cX8_image 28 = .ok (.invokespecial 11, 3) := by decide +kernel
theorem dX8_image_31 : decode cX8_image 31 = .ok (.aastore, 1) := by decide +kernel
theorem dX8_image_32 : decode cX8_image 32 = .ok (.aload_n 0, 1) := by decide +kernel
theorem dX8_image_33 : decode cX8_image 33 = .ok (.getfield 16, 3) := by decide +kernel
theorem dX8_image_36 : decode cX8_image 36 = .ok (.iload_n 1, 1) := by decide +kernel
theorem dX8_image_37 : decode cX8_image 37 = .ok (.aaload, 1) := by decide +kernel
theorem dX8_image_38 : decode cX8_image 38 = .ok (.aload_n 0, 1) := by decide +kernel
theorem dX8_image_39 : decode cX8_image 39 = .ok (.getfield 12, 3) := by decide +kernel
theorem dX8_image_42 : decode cX8_image 42 = .ok (.invokevirtual 213, 3) := by decide +kernel
theorem dX8_image_45 : decode cX8_image 45 = .ok (.iconst 1, 1) := by decide +kernel
theorem dX8_image_46 : decode cX8_image 46 = .ok (.ireturn, 1) := by decide +kernel
theorem dX8_restore_0 : decode cX8_restore 0 = .ok (.iload_n 1, 1) := by decide +kernel
theorem dX8_restore_1 : decode cX8_restore 1 = .ok (.invokestatic 210, 3) := by decide +kernel
theorem dX8_restore_4 : decode cX8_restore 4 = .ok (.ifCond .ne 6, 3) := by decide +kernel
theorem dX8_restore_7 : decode cX8_restore 7 = .ok (.bipush (-2), 2) := by decide +kernel
theorem dX8_restore_9 : decode cX8_restore 9 = .ok (.ireturn, 1) := by decide +kernel
theorem dX8_restore_10 : decode cX8_restore 10 = .ok (.aload_n 0, 1) := by decide +kernel
theorem dX8_restore_11 : decode cX8_restore 11 = .ok (.getfield 16, 3) := by decide +kernel
theorem dX8_restore_14 : decode cX8_restore 14 = .ok (.iload_n 1, 1) := by decide +kernel
theorem dX8_restore_15 : decode cX8_restore 15 = .ok (.aaload, 1) := by decide +kernel
theorem dX8_restore_16 : decode cX8_restore 16 = .ok (.ifnonnull 6, 3) := by decide +kernel
theorem dX8_restore_19 : decode cX8_restore 19 = .ok (.bipush (-3), 2) := by decide +kernel
theorem dX8_restore_21 : decode cX8_restore 21 = .ok (.ireturn, 1) := by decide +kernel
theorem dX8_restore_22 : decode cX8_restore 22 = .ok (.aload_n 0, 1) := by decide +kernel
theorem dX8_restore_23 : decode cX8_restore 23 = .ok (.getfield 12, 3) := by decide +kernel
theorem dX8_restore_26 : decode cX8_restore 26 = .ok (.aload_n 0, 1) := by decide +kernel
theorem dX8_restore_27 : decode cX8_restore 27 = .ok (.getfield 16, 3) := by decide +kernel
theorem dX8_restore_30 : decode cX8_restore 30 = .ok (.iload_n 1, 1) := by decide +kernel
theorem dX8_restore_31 : decode cX8_restore 31 = .ok (.aaload, 1) := by decide +kernel
theorem dX8_restore_32 : decode cX8_restore 32 = .ok (.invokevirtual 213, 3) := by decide +kernel
theorem dX8_restore_35 : decode cX8_restore 35 = .ok (.iconst 1, 1) := by decide +kernel
theorem dX8_restore_36 : decode cX8_restore 36 = .ok (.ireturn, 1) := by decide +kernel
theorem dX8_told_0 : decode cX8_told 0 = .ok (.iload_n 1, 1) := by decide +kernel
theorem dX8_told_1 : decode cX8_told 1 = .ok (.ifCond .ne 11, 3) := by decide +kernel
theorem dX8_told_4 : decode cX8_told 4 = .ok (.aload_n 0, 1) := by decide +kernel
theorem dX8_told_5 : decode cX8_told 5 = .ok (.getfield 23, 3) := by decide +kernel
theorem dX8_told_8 : decode cX8_told 8 = .ok (.getfield 137, 3) := by decide +kernel
theorem dX8_told_11 : decode cX8_told 11 = .ok (.ireturn, 1) := by decide +kernel
theorem dX8_told_12 : decode cX8_told 12 = .ok (.iload_n 1, 1) := by decide +kernel
theorem dX8_told_13 : decode cX8_told 13 = .ok (.iconst 1, 1) := by decide +kernel
theorem dX8_told_14 : decode cX8_told 14 = .ok (.if_icmp .ne 11, 3) := by decide +kernel
theorem dX8_told_17 : decode cX8_told 17 = .ok (.aload_n 0, 1) := by decide +kernel
theorem dX8_told_18 : decode cX8_told 18 = .ok (.getfield 12, 3) := by decide +kernel
theorem dX8_told_21 : decode cX8_told 21 = .ok (.invokevirtual 217, 3) := by decide +kernel
theorem dX8_told_24 : decode cX8_told 24 = .ok (.ireturn, 1) := by decide +kernel
theorem dX8_told_25 : decode cX8_told 25 = .ok (.iload_n 1, 1) := by decide +kernel
theorem dX8_told_26 : decode cX8_told 26 = .ok (.bipush 10, 2) := by decide +kernel
theorem dX8_told_28 : decode cX8_told 28 = .ok (.if_icmp .lt 29, 3) := by decide +kernel
theorem dX8_told_31 : decode cX8_told 31 = .ok (.iload_n 1, 1) := by decide +kernel
theorem dX8_told_32 : decode cX8_told 32 = .ok (.bipush 10, 2) := by decide +kernel
theorem dX8_told_34 : decode cX8_told 34 = .ok (.isub, 1) := by decide +kernel
theorem dX8_told_35 : decode cX8_told 35 = .ok (.invokestatic 64, 3) := by decide +kernel
theorem dX8_told_38 : decode cX8_told 38 = .ok (.ifCond .eq 19, 3) := by decide +kernel
theorem dX8_told_41 : decode cX8_told 41 = .ok (.aload_n 0, 1) := by decide +kernel
theorem dX8_told_42 : decode cX8_told 42 = .ok (.getfield 12, 3) := by decide +kernel
theorem dX8_told_45 : decode cX8_told 45 = .ok (.getfield 71, 3) := by decide +kernel
theorem dX8_told_48 : decode cX8_told 48 = .ok (.iload_n 1, 1) := by decide +kernel
theorem dX8_told_49 : decode cX8_told 49 = .ok (.bipush 10, 2) := by decide +kernel
theorem dX8_told_51 : decode cX8_told 51 = .ok (.isub, 1) := by decide +kernel
theorem dX8_told_52 : decode cX8_told 52 = .ok (.aaload, 1) := by decide +kernel
theorem dX8_told_53 : decode cX8_told 53 = .ok (.getfield 156, 3) := by decide +kernel
theorem dX8_told_56 : decode cX8_told 56 = .ok (.ireturn, 1) := by decide +kernel
theorem dX8_told_57 : decode cX8_told 57 = .ok (.iload_n 1, 1) := by decide +kernel
theorem dX8_told_58 : decode cX8_told 58 = .ok (.bipush 20, 2) := by decide +kernel
theorem dX8_told_60 : decode cX8_told 60 = .ok (.if_icmp .lt 30, 3) := by decide +kernel
theorem dX8_told_63 : decode cX8_told 63 = .ok (.iload_n 1, 1) := by decide +kernel
theorem dX8_told_64 : decode cX8_told 64 = .ok (.bipush 20, 2) := by decide +kernel
theorem dX8_told_66 : decode cX8_told 66 = .ok (.isub, 1) := by decide +kernel
theorem dX8_told_67 : decode cX8_told 67 = .ok (.invokestatic 64, 3) := by decide +kernel
theorem dX8_told_70 : decode cX8_told 70 = .ok (.ifCond .eq 20, 3) := by decide +kernel
theorem dX8_told_73 : decode cX8_told 73 = .ok (.aload_n 0, 1) := by decide +kernel
theorem dX8_told_74 : decode cX8_told 74 = .ok (.aload_n 0, 1) := by decide +kernel
theorem dX8_told_75 : decode cX8_told 75 = .ok (.getfield 12, 3) := by decide +kernel
theorem dX8_told_78 : decode cX8_told 78 = .ok (.getfield 71, 3) := by decide +kernel
theorem dX8_told_81 : decode cX8_told 81 = .ok (.iload_n 1, 1) := by decide +kernel
theorem dX8_told_82 : decode cX8_told 82 = .ok (.bipush 20, 2) := by decide +kernel
theorem dX8_told_84 : decode cX8_told 84 = .ok (.isub, 1) := by decide +kernel
theorem dX8_told_85 : decode cX8_told 85 = .ok (.aaload, 1) := by decide +kernel
theorem dX8_told_86 : decode cX8_told 86 = .ok (.invokevirtual 220, 3) := by decide +kernel
theorem dX8_told_89 : decode cX8_told 89 = .ok (.ireturn, 1) := by decide +kernel
theorem dX8_told_90 : decode cX8_told 90 = .ok (.bipush (-2), 2) := by decide +kernel
theorem dX8_told_92 : decode cX8_told 92 = .ok (.ireturn, 1) := by decide +kernel
theorem dX8_isRow_0 : decode cX8_isRow 0 = .ok (.iload_n 1, 1) := by decide +kernel
theorem dX8_isRow_1 : decode cX8_isRow 1 = .ok (.invokestatic 64, 3) := by decide +kernel
theorem dX8_isRow_4 : decode cX8_isRow 4 = .ok (.ifCond .eq 27, 3) := by decide +kernel
theorem dX8_isRow_7 : decode cX8_isRow 7 = .ok (.iload_n 2, 1) := by decide +kernel
theorem dX8_isRow_8 : decode cX8_isRow 8 = .ok (.ifCond .lt 23, 3) := by decide +kernel
theorem dX8_isRow_11 : decode cX8_isRow 11 = .ok (.iload_n 2, 1) := by decide +kernel
theorem dX8_isRow_12 : decode cX8_isRow 12 = .ok (.aload_n 0, 1) := by decide +kernel
theorem dX8_isRow_13 : decode cX8_isRow 13 = .ok (.getfield 12, 3) := by decide +kernel
theorem dX8_isRow_16 : decode cX8_isRow 16 = .ok (.getfield 71, 3) := by decide +kernel
theorem dX8_isRow_19 : decode cX8_isRow 19 = .ok (.iload_n 1, 1) := by decide +kernel
theorem dX8_isRow_20 : decode cX8_isRow 20 = .ok (.aaload, 1) := by decide +kernel
theorem dX8_isRow_21 : decode cX8_isRow 21 = .ok (.getfield 156, 3) := by decide +kernel
theorem dX8_isRow_24 : decode cX8_isRow 24 = .ok (.if_icmp .ge 7, 3) := by decide +kernel
theorem dX8_isRow_27 : decode cX8_isRow 27 = .ok (.iconst 1, 1) := by decide +kernel
theorem dX8_isRow_28 : decode cX8_isRow 28 = .ok (.goto 4, 3) := by decide +kernel
theorem dX8_isRow_31 : decode cX8_isRow 31 = .ok (.iconst 0, 1) := by decide +kernel
theorem dX8_isRow_32 : decode cX8_isRow 32 = .ok (.ireturn, 1) := by decide +kernel
theorem dX8_isPlace_0 : decode cX8_isPlace 0 = .ok (.iload_n 1, 1) := by decide +kernel
theorem dX8_isPlace_1 : decode cX8_isPlace 1 = .ok (.ifCond .lt 18, 3) := by decide +kernel
theorem dX8_isPlace_4 : decode cX8_isPlace 4 = .ok (.iload_n 1, 1) := by decide +kernel
theorem dX8_isPlace_5 : decode cX8_isPlace 5 = .ok (.aload_n 0, 1) := by decide +kernel
theorem dX8_isPlace_6 : decode cX8_isPlace 6 = .ok (.getfield 23, 3) := by decide +kernel
theorem dX8_isPlace_9 : decode cX8_isPlace 9 = .ok (.getfield 137, 3) := by decide +kernel
theorem dX8_isPlace_12 : decode cX8_isPlace 12 = .ok (.if_icmp .ge 7, 3) := by decide +kernel
theorem dX8_isPlace_15 : decode cX8_isPlace 15 = .ok (.iconst 1, 1) := by decide +kernel
theorem dX8_isPlace_16 : decode cX8_isPlace 16 = .ok (.goto 4, 3) := by decide +kernel
theorem dX8_isPlace_19 : decode cX8_isPlace 19 = .ok (.iconst 0, 1) := by decide +kernel
theorem dX8_isPlace_20 : decode cX8_isPlace 20 = .ok (.ireturn, 1) := by decide +kernel
theorem dX8_isBlock_0 : decode cX8_isBlock 0 = .ok (.iload_n 0, 1) := by decide +kernel
theorem dX8_isBlock_1 : decode cX8_isBlock 1 = .ok (.ifCond .lt 13, 3) := by decide +kernel
theorem dX8_isBlock_4 : decode cX8_isBlock 4 = .ok (.iload_n 0, 1) := by decide +kernel
theorem dX8_isBlock_5 : decode cX8_isBlock 5 = .ok (.bipush 6, 2) := by decide +kernel
theorem dX8_isBlock_7 : decode cX8_isBlock 7 = .ok (.if_icmp .ge 7, 3) := by decide +kernel
theorem dX8_isBlock_10 : decode cX8_isBlock 10 = .ok (.iconst 1, 1) := by decide +kernel
theorem dX8_isBlock_11 : decode cX8_isBlock 11 = .ok (.goto 4, 3) := by decide +kernel
theorem dX8_isBlock_14 : decode cX8_isBlock 14 = .ok (.iconst 0, 1) := by decide +kernel
theorem dX8_isBlock_15 : decode cX8_isBlock 15 = .ok (.ireturn, 1) := by decide +kernel
theorem dX8_isColumn_0 : decode cX8_isColumn 0 = .ok (.iload_n 0, 1) := by decide +kernel
theorem dX8_isColumn_1 : decode cX8_isColumn 1 = .ok (.ifCond .lt 12, 3) := by decide +kernel
theorem dX8_isColumn_4 : decode cX8_isColumn 4 = .ok (.iload_n 0, 1) := by decide +kernel
theorem dX8_isColumn_5 : decode cX8_isColumn 5 = .ok (.iconst 4, 1) := by decide +kernel
theorem dX8_isColumn_6 : decode cX8_isColumn 6 = .ok (.if_icmp .ge 7, 3) := by decide +kernel
theorem dX8_isColumn_9 : decode cX8_isColumn 9 = .ok (.iconst 1, 1) := by decide +kernel
theorem dX8_isColumn_10 : decode cX8_isColumn 10 = .ok (.goto 4, 3) := by decide +kernel
theorem dX8_isColumn_13 : decode cX8_isColumn 13 = .ok (.iconst 0, 1) := by decide +kernel
theorem dX8_isColumn_14 : decode cX8_isColumn 14 = .ok (.ireturn, 1) := by decide +kernel
theorem dX8_isImage_0 : decode cX8_isImage 0 = .ok (.iload_n 0, 1) := by decide +kernel
theorem dX8_isImage_1 : decode cX8_isImage 1 = .ok (.ifCond .lt 12, 3) := by decide +kernel
theorem dX8_isImage_4 : decode cX8_isImage 4 = .ok (.iload_n 0, 1) := by decide +kernel
theorem dX8_isImage_5 : decode cX8_isImage 5 = .ok (.iconst 2, 1) := by decide +kernel
theorem dX8_isImage_6 : decode cX8_isImage 6 = .ok (.if_icmp .ge 7, 3) := by decide +kernel
theorem dX8_isImage_9 : decode cX8_isImage 9 = .ok (.iconst 1, 1) := by decide +kernel
theorem dX8_isImage_10 : decode cX8_isImage 10 = .ok (.goto 4, 3) := by decide +kernel
theorem dX8_isImage_13 : decode cX8_isImage 13 = .ok (.iconst 0, 1) := by decide +kernel
theorem dX8_isImage_14 : decode cX8_isImage 14 = .ok (.ireturn, 1) := by decide +kernel
theorem dX8_isEntry_0 : decode cX8_isEntry 0 = .ok (.iload_n 0, 1) := by decide +kernel
theorem dX8_isEntry_1 : decode cX8_isEntry 1 = .ok (.sipush (-999), 3) := by decide +kernel
theorem dX8_isEntry_4 : decode cX8_isEntry 4 = .ok (.if_icmp .lt 14, 3) := by decide +kernel
theorem dX8_isEntry_7 : decode cX8_isEntry 7 = .ok (.iload_n 0, 1) := by decide +kernel
theorem dX8_isEntry_8 : decode cX8_isEntry 8 = .ok (.sipush 1000, 3) := by decide +kernel
theorem dX8_isEntry_11 : decode cX8_isEntry 11 = .ok (.if_icmp .gt 7, 3) := by decide +kernel
theorem dX8_isEntry_14 : decode cX8_isEntry 14 = .ok (.iconst 1, 1) := by decide +kernel
theorem dX8_isEntry_15 : decode cX8_isEntry 15 = .ok (.goto 4, 3) := by decide +kernel
theorem dX8_isEntry_18 : decode cX8_isEntry 18 = .ok (.iconst 0, 1) := by decide +kernel
theorem dX8_isEntry_19 : decode cX8_isEntry 19 = .ok (.ireturn, 1) := by decide +kernel
theorem dX8_chancesIn_0 : decode cX8_chancesIn 0 = .ok (.aload_n 1, 1) := by decide +kernel
theorem dX8_chancesIn_1 : decode cX8_chancesIn 1 = .ok (.getfield 156, 3) := by decide +kernel
theorem dX8_chancesIn_4 : decode cX8_chancesIn 4 = .ok (.ifCond .ne 5, 3) := by decide +kernel
theorem dX8_chancesIn_7 : decode cX8_chancesIn 7 = .ok (.iconst 0, 1) := by decide +kernel
theorem dX8_chancesIn_8 : decode cX8_chancesIn 8 = .ok (.ireturn, 1) := by decide +kernel
theorem dX8_chancesIn_9 : decode cX8_chancesIn 9 = .ok (.aload_n 0, 1) := by decide +kernel
theorem dX8_chancesIn_10 : decode cX8_chancesIn 10 = .ok (.getfield 23, 3) := by decide +kernel
theorem dX8_chancesIn_13 : decode cX8_chancesIn 13 = .ok (.invokevirtual 223, 3) := by decide +kernel
theorem dX8_chancesIn_16 : decode cX8_chancesIn 16 = .ok (.istore_n 2, 1) := by decide +kernel
theorem dX8_chancesIn_17 : decode cX8_chancesIn 17 = .ok (.iload_n 2, 1) := by decide +kernel
theorem dX8_chancesIn_18 : decode cX8_chancesIn 18 = .ok (.ldc 121, 2) := by decide +kernel
theorem dX8_chancesIn_20 : decode cX8_chancesIn 20 = .ok (.if_icmp .eq 27, 3) := by decide +kernel
theorem dX8_chancesIn_23 : decode cX8_chancesIn 23 = .ok (.aload_n 1, 1) := by decide +kernel
theorem dX8_chancesIn_24 : decode cX8_chancesIn 24 = .ok (.getfield 101, 3) := by decide +kernel
theorem dX8_chancesIn_27 : decode cX8_chancesIn 27 = .ok (.iload_n 2, 1) := by decide +kernel
theorem dX8_chancesIn_28 : decode cX8_chancesIn 28 = .ok (.aaload, 1) := by decide +kernel
theorem dX8_chancesIn_29 : decode cX8_chancesIn 29 = .ok (.getfield 117, 3) := by decide +kernel
theorem dX8_chancesIn_32 : decode cX8_chancesIn 32 = .ok (.ifCond .ne 15, 3) := by decide +kernel
theorem dX8_chancesIn_35 : decode cX8_chancesIn 35 = .ok (.aload_n 0, 1) := by decide +kernel
theorem dX8_chancesIn_36 : decode cX8_chancesIn 36 = .ok (.aload_n 1, 1) := by decide +kernel
theorem dX8_chancesIn_37 : decode cX8_chancesIn 37 = .ok (.getfield 101, 3) := by decide +kernel
theorem dX8_chancesIn_40 : decode cX8_chancesIn 40 = .ok (.iload_n 2, 1) := by decide +kernel
theorem dX8_chancesIn_41 : decode cX8_chancesIn 41 = .ok (.aaload, 1) := by decide +kernel
theorem dX8_chancesIn_42 : decode cX8_chancesIn 42 = .ok (.iload_n 2, 1) := by decide +kernel
theorem dX8_chancesIn_43 : decode cX8_chancesIn 43 = .ok (.invokevirtual 226, 3) := by decide +kernel
theorem dX8_chancesIn_46 : decode cX8_chancesIn 46 = .ok (.ireturn, 1) := by decide +kernel
theorem dX8_chancesIn_47 : decode cX8_chancesIn 47 = .ok (.aload_n 0, 1) := by decide +kernel
theorem dX8_chancesIn_48 : decode cX8_chancesIn 48 = .ok (.getfield 39, 3) := by decide +kernel
theorem dX8_chancesIn_51 : decode cX8_chancesIn 51 = .ok (.aload_n 1, 1) := by decide +kernel
theorem dX8_chancesIn_52 : decode cX8_chancesIn 52 = .ok (.invokevirtual 163, 3) := by decide +kernel
theorem dX8_chancesIn_55 : decode cX8_chancesIn 55 = .ok (.aload_n 0, 1) := by decide +kernel
theorem dX8_chancesIn_56 : decode cX8_chancesIn 56 = .ok (.getfield 39, 3) := by decide +kernel
theorem dX8_chancesIn_59 : decode cX8_chancesIn 59 = .ok (.getfield 166, 3) := by decide +kernel
theorem dX8_chancesIn_62 : decode cX8_chancesIn 62 = .ok (.iconst 0, 1) := by decide +kernel
theorem dX8_chancesIn_63 : decode cX8_chancesIn 63 = .ok (.iaload, 1) := by decide +kernel
theorem dX8_chancesIn_64 : decode cX8_chancesIn 64 = .ok (.ireturn, 1) := by decide +kernel
theorem dX8_chancesByList_0 : decode cX8_chancesByList 0 = .ok (.iconst 0, 1) := by decide +kernel
theorem dX8_chancesByList_1 : decode cX8_chancesByList 1 = .ok (.istore_n 3, 1) := by decide +kernel
theorem dX8_chancesByList_2 : decode cX8_chancesByList 2 = .ok (.iconst 0, 1) := by decide +kernel
theorem dX8_chancesByList_3 : decode cX8_chancesByList 3 = .ok (.istore 4, 2) := by decide +kernel
theorem dX8_chancesByList_5 : decode cX8_chancesByList 5 = .ok (.iload 4, 2) := by decide +kernel
theorem dX8_chancesByList_7 : decode cX8_chancesByList 7 = .ok (.aload_n 1, 1) := by decide +kernel
theorem dX8_chancesByList_8 : decode cX8_chancesByList 8 = .ok (.getfield 122, 3) := by decide +kernel
theorem dX8_chancesByList_11 : decode cX8_chancesByList 11 = .ok (.if_icmp .ge 49, 3) := by decide +kernel
theorem dX8_chancesByList_14 : decode cX8_chancesByList 14 = .ok (.aload_n 1, 1) := by decide +kernel
theorem dX8_chancesByList_15 : decode cX8_chancesByList 15 = .ok (.getfield 132, 3) := by decide +kernel
theorem dX8_chancesByList_18 : decode cX8_chancesByList 18 = .ok (.iload 4, 2) := by decide +kernel
theorem dX8_chancesByList_20 : decode cX8_chancesByList 20 = .ok (.iaload, 1) := by decide +kernel
theorem dX8_chancesByList_21 : decode cX8_chancesByList 21 = .ok (.ifCond .le 33, 3) := by decide +kernel
theorem dX8_chancesByList_24 : decode cX8_chancesByList 24 = .ok (.aload_n 0, 1) := by decide +kernel
theorem dX8_chancesByList_25 : decode cX8_chancesByList 25 = .ok (.getfield 43, 3) := by decide +kernel
theorem dX8_chancesByList_28 : decode cX8_chancesByList 28 = .ok (.iload_n 2, 1) := by decide +kernel
theorem dX8_chancesByList_29 : decode cX8_chancesByList 29 = .ok (.aload_n 1, 1) := by decide +kernel
theorem dX8_chancesByList_30 : decode cX8_chancesByList 30 = .ok (.getfield 129, 3) := by decide +kernel
theorem dX8_chancesByList_33 : decode cX8_chancesByList 33 = .ok (.iload 4, 2) := by decide +kernel
theorem dX8_chancesByList_35 : decode cX8_chancesByList 35 = .ok (.iaload, 1) := by decide +kernel
theorem dX8_chancesByList_36 : decode cX8_chancesByList 36 = .ok (.iastore, 1) := by decide +kernel
theorem dX8_chancesByList_37 : decode cX8_chancesByList 37 = .ok (.iload_n 3, 1) := by decide +kernel
theorem dX8_chancesByList_38 : decode cX8_chancesByList 38 = .ok (.aload_n 0, 1) := by decide +kernel
theorem dX8_chancesByList_39 : decode cX8_chancesByList 39 = .ok (.getfield 32, 3) := by decide +kernel
theorem dX8_chancesByList_42 : decode cX8_chancesByList 42 = .ok (.aload_n 0, 1) := by decide +kernel
theorem dX8_chancesByList_43 : decode cX8_chancesByList 43 = .ok (.getfield 43, 3) := by decide +kernel
theorem dX8_chancesByList_46 : decode cX8_chancesByList 46 = .ok (.invokevirtual 148, 3) := by decide +kernel
theorem dX8_chancesByList_49 : decode cX8_chancesByList 49 = .ok (.invokestatic 230, 3) := by decide +kernel
theorem dX8_chancesByList_52 : decode cX8_chancesByList 52 = .ok (.ior, 1) := by decide +kernel
theorem dX8_chancesByList_53 : decode cX8_chancesByList 53 = .ok (.istore_n 3, 1) := by decide +kernel
theorem dX8_chancesByList_54 : decode cX8_chancesByList 54 = .ok (.iinc 4 1, 3) := by decide +kernel
theorem dX8_chancesByList_57 : decode cX8_chancesByList 57 = .ok (.goto (-52), 3) := by decide +kernel
theorem dX8_chancesByList_60 : decode cX8_chancesByList 60 = .ok (.aload_n 1, 1) := by decide +kernel
theorem dX8_chancesByList_61 : decode cX8_chancesByList 61 = .ok (.getfield 114, 3) := by decide +kernel
theorem dX8_chancesByList_64 : decode cX8_chancesByList 64 = .ok (.ifCond .le 29, 3) := by decide +kernel
theorem dX8_chancesByList_67 : decode cX8_chancesByList 67 = .ok (.aload_n 0, 1) := by decide +kernel
theorem dX8_chancesByList_68 : decode cX8_chancesByList 68 = .ok (.getfield 43, 3) := by decide +kernel
theorem dX8_chancesByList_71 : decode cX8_chancesByList 71 = .ok (.iload_n 2, 1) := by decide +kernel
theorem dX8_chancesByList_72 : decode cX8_chancesByList 72 = .ok (.sipush 1000, 3) := by decide +kernel
theorem dX8_chancesByList_75 : decode cX8_chancesByList 75 = .ok (.iastore, 1) := by decide +kernel
theorem dX8_chancesByList_76 : decode cX8_chancesByList 76 = .ok (.iload_n 3, 1) := by decide +kernel
theorem dX8_chancesByList_77 : decode cX8_chancesByList 77 = .ok (.aload_n 0, 1) := by decide +kernel
theorem dX8_chancesByList_78 : decode cX8_chancesByList 78 = .ok (.getfield 32, 3) := by decide +kernel
theorem dX8_chancesByList_81 : decode cX8_chancesByList 81 = .ok (.aload_n 0, 1) := by decide +kernel
theorem dX8_chancesByList_82 : decode cX8_chancesByList 82 = .ok (.getfield 43, 3) := by decide +kernel
theorem dX8_chancesByList_85 : decode cX8_chancesByList 85 = .ok (.invokevirtual 148, 3) := by decide +kernel
theorem dX8_chancesByList_88 : decode cX8_chancesByList 88 = .ok (.invokestatic 230, 3) := by decide +kernel
theorem dX8_chancesByList_91 : decode cX8_chancesByList 91 = .ok (.ior, 1) := by decide +kernel
theorem dX8_chancesByList_92 : decode cX8_chancesByList 92 = .ok (.istore_n 3, 1) := by decide +kernel
theorem dX8_chancesByList_93 : decode cX8_chancesByList 93 = .ok (.iload_n 3, 1) := by decide +kernel
theorem dX8_chancesByList_94 : decode cX8_chancesByList 94 = .ok (.ireturn, 1) := by decide +kernel
theorem dX8_weighBlocks_0 : decode cX8_weighBlocks 0 = .ok (.iconst 0, 1) := by decide +kernel
theorem dX8_weighBlocks_1 : decode cX8_weighBlocks 1 = .ok (.istore_n 1, 1) := by decide +kernel
theorem dX8_weighBlocks_2 : decode cX8_weighBlocks 2 = .ok (.iload_n 1, 1) := by decide +kernel
theorem dX8_weighBlocks_3 : decode cX8_weighBlocks 3 = .ok (.bipush 6, 2) := by decide +kernel
theorem dX8_weighBlocks_5 : decode cX8_weighBlocks 5 = .ok (.if_icmp .ge 28, 3) := by decide +kernel
theorem dX8_weighBlocks_8 : decode cX8_weighBlocks 8 = .ok (.aload_n 0, 1) := by decide +kernel
theorem dX8_weighBlocks_9 : decode cX8_weighBlocks 9 = .ok (.getfield 47, 3) := by decide +kernel
theorem dX8_weighBlocks_12 : decode cX8_weighBlocks 12 = .ok (.iload_n 1, 1) := by decide +kernel
theorem dX8_weighBlocks_13 : decode cX8_weighBlocks 13 = .ok (.aload_n 0, 1) := by decide +kernel
theorem dX8_weighBlocks_14 : decode cX8_weighBlocks 14 = .ok (.aload_n 0, 1) := by decide +kernel
theorem dX8_weighBlocks_15 : decode cX8_weighBlocks 15 = .ok (.getfield 12, 3) := by decide +kernel
theorem dX8_weighBlocks_18 : decode cX8_weighBlocks 18 = .ok (.getfield 71, 3) := by decide +kernel
theorem dX8_weighBlocks_21 : decode cX8_weighBlocks 21 = .ok (.iload_n 1, 1) := by decide +kernel
theorem dX8_weighBlocks_22 : decode cX8_weighBlocks 22 = .ok (.aaload, 1) := by decide +kernel
theorem dX8_weighBlocks_23 : decode cX8_weighBlocks 23 = .ok (.invokevirtual 175, 3) := by decide +kernel
theorem dX8_weighBlocks_26 : decode cX8_weighBlocks 26 = .ok (.iastore, 1) := by decide +kernel
theorem dX8_weighBlocks_27 : decode cX8_weighBlocks 27 = .ok (.iinc 1 1, 3) := by decide +kernel
theorem dX8_weighBlocks_30 : decode cX8_weighBlocks 30 = .ok (.goto (-28), 3) := by decide +kernel
theorem dX8_weighBlocks_33 : decode cX8_weighBlocks 33 = .ok (.return_, 1) := by decide +kernel
theorem dX8_rulingOf_0 : decode cX8_rulingOf 0 = .ok (.iload_n 0, 1) := by decide +kernel
theorem dX8_rulingOf_1 : decode cX8_rulingOf 1 = .ok (.iconst 1, 1) := by decide +kernel
theorem dX8_rulingOf_2 : decode cX8_rulingOf 2 = .ok (.iand, 1) := by decide +kernel
theorem dX8_rulingOf_3 : decode cX8_rulingOf 3 = .ok (.ifCond .ne 5, 3) := by decide +kernel
theorem dX8_rulingOf_6 : decode cX8_rulingOf 6 = .ok (.iconst 0, 1) := by decide +kernel
theorem dX8_rulingOf_7 : decode cX8_rulingOf 7 = .ok (.ireturn, 1) := by decide +kernel
theorem dX8_rulingOf_8 : decode cX8_rulingOf 8 = .ok (.iload_n 0, 1) := by decide +kernel
theorem dX8_rulingOf_9 : decode cX8_rulingOf 9 = .ok (.iconst 1, 1) := by decide +kernel
theorem dX8_rulingOf_10 : decode cX8_rulingOf 10 = .ok (.if_icmp .ne 7, 3) := by decide +kernel
theorem dX8_rulingOf_13 : decode cX8_rulingOf 13 = .ok (.iconst 1, 1) := by decide +kernel
theorem dX8_rulingOf_14 : decode cX8_rulingOf 14 = .ok (.goto 4, 3) := by decide +kernel
theorem dX8_rulingOf_17 : decode cX8_rulingOf 17 = .ok (.iconst 2, 1) := by decide +kernel
theorem dX8_rulingOf_18 : decode cX8_rulingOf 18 = .ok (.ireturn, 1) := by decide +kernel
theorem dX8_blocksRuled_0 : decode cX8_blocksRuled 0 = .ok (.iconst 0, 1) := by decide +kernel
theorem dX8_blocksRuled_1 : decode cX8_blocksRuled 1 = .ok (.istore_n 2, 1) := by decide +kernel
theorem dX8_blocksRuled_2 : decode cX8_blocksRuled 2 = .ok (.iconst 0, 1) := by decide +kernel
theorem dX8_blocksRuled_3 : decode cX8_blocksRuled 3 = .ok (.istore_n 3, 1) := by decide +kernel
theorem dX8_blocksRuled_4 : decode cX8_blocksRuled 4 = .ok (.iload_n 3, 1) := by decide +kernel
theorem dX8_blocksRuled_5 : decode cX8_blocksRuled 5 = .ok (.bipush 6, 2) := by decide +kernel
theorem dX8_blocksRuled_7 : decode cX8_blocksRuled 7 = .ok (.if_icmp .ge 28, 3) := by decide +kernel
theorem dX8_blocksRuled_10 : decode cX8_blocksRuled 10 = .ok (.aload_n 0, 1) := by decide +kernel
theorem dX8_blocksRuled_11 : decode cX8_blocksRuled 11 = .ok (.getfield 47, 3) := by decide +kernel
theorem dX8_blocksRuled_14 : decode cX8_blocksRuled 14 = .ok (.iload_n 3, 1) := by decide +kernel
theorem dX8_blocksRuled_15 : decode cX8_blocksRuled 15 = .ok (.iaload, 1) := by decide +kernel
theorem dX8_blocksRuled_16 : decode cX8_blocksRuled 16 = .ok (.invokestatic 179, 3) := by decide +kernel
theorem dX8_blocksRuled_19 : decode cX8_blocksRuled 19 = .ok (.iload_n 1, 1) := by decide +kernel
theorem dX8_blocksRuled_20 : decode cX8_blocksRuled 20 = .ok (.if_icmp .ne 9, 3) := by decide +kernel
theorem dX8_blocksRuled_23 : decode cX8_blocksRuled 23 = .ok (.iload_n 2, 1) := by decide +kernel
theorem dX8_blocksRuled_24 : decode cX8_blocksRuled 24 = .ok (.iconst 1, 1) := by decide +kernel
theorem dX8_blocksRuled_25 : decode cX8_blocksRuled 25 = .ok (.iload_n 3, 1) := by decide +kernel
theorem dX8_blocksRuled_26 : decode cX8_blocksRuled 26 = .ok (.ishl, 1) := by decide +kernel
theorem dX8_blocksRuled_27 : decode cX8_blocksRuled 27 = .ok (.ior, 1) := by decide +kernel
theorem dX8_blocksRuled_28 : decode cX8_blocksRuled 28 = .ok (.istore_n 2, 1) := by decide +kernel
theorem dX8_blocksRuled_29 : decode cX8_blocksRuled 29 = .ok (.iinc 3 1, 3) := by decide +kernel
theorem dX8_blocksRuled_32 : decode cX8_blocksRuled 32 = .ok (.goto (-28), 3) := by decide +kernel
theorem dX8_blocksRuled_35 : decode cX8_blocksRuled 35 = .ok (.iload_n 2, 1) := by decide +kernel
theorem dX8_blocksRuled_36 : decode cX8_blocksRuled 36 = .ok (.ireturn, 1) := by decide +kernel
theorem dX8_countScannedRows_0 : decode cX8_countScannedRows 0 = .ok (.iconst 0, 1) := by decide +kernel
theorem dX8_countScannedRows_1 : decode cX8_countScannedRows 1 = .ok (.istore_n 1, 1) := by decide +kernel
theorem dX8_countScannedRows_2 : decode cX8_countScannedRows 2 = .ok (.iconst 0, 1) := by decide +kernel
theorem dX8_countScannedRows_3 : decode cX8_countScannedRows 3 = .ok (.istore_n 2, 1) := by decide +kernel
theorem dX8_countScannedRows_4 : decode cX8_countScannedRows 4 = .ok (.iload_n 2, 1) := by decide +kernel
theorem dX8_countScannedRows_5 : decode cX8_countScannedRows 5 = .ok (.bipush 6, 2) := by decide +kernel
theorem dX8_countScannedRows_7 : decode cX8_countScannedRows 7 = .ok (.if_icmp .ge 37, 3) := by decide +kernel
theorem dX8_countScannedRows_10 : decode cX8_countScannedRows 10 = .ok (.aload_n 0, 1) := by decide +kernel
theorem dX8_countScannedRows_11 : decode cX8_countScannedRows 11 = .ok (.getfield 47, 3) := by decide +kernel
theorem dX8_countScannedRows_14 : decode cX8_countScannedRows 14 = .ok (.iload_n 2, 1) := by decide +kernel
theorem dX8_countScannedRows_15 : decode cX8_countScannedRows 15 = .ok (.iaload, 1) := by decide +kernel
theorem dX8_countScannedRows_16 : decode cX8_countScannedRows 16 = .ok (.invokestatic 179, 3) := by decide +kernel
theorem dX8_countScannedRows_19 : decode cX8_countScannedRows 19 = .ok (.iconst 2, 1) := by decide +kernel
theorem dX8_countScannedRows_20 : decode cX8_countScannedRows 20 = .ok (.if_icmp .ne 18, 3) := by decide +kernel
theorem dX8_countScannedRows_23 : decode cX8_countScannedRows 23 = .ok (.iload_n 1, 1) := by decide +kernel
theorem dX8_countScannedRows_24 : decode cX8_countScannedRows 24 = .ok (.aload_n 0, 1) := by decide +kernel
theorem dX8_countScannedRows_25 : decode cX8_countScannedRows 25 = .ok (.getfield 12, 3) := by decide +kernel
theorem dX8_countScannedRows_28 : decode cX8_countScannedRows 28 = .ok (.getfield 71, 3) := by decide +kernel
theorem dX8_countScannedRows_31 : decode cX8_countScannedRows 31 = .ok (.iload_n 2, 1) := by decide +kernel
theorem dX8_countScannedRows_32 : decode cX8_countScannedRows 32 = .ok (.aaload, 1) := by decide +kernel
theorem dX8_countScannedRows_33 : decode cX8_countScannedRows 33 = .ok (.getfield 156, 3) := by decide +kernel
theorem dX8_countScannedRows_36 : decode cX8_countScannedRows 36 = .ok (.iadd, 1) := by decide +kernel
theorem dX8_countScannedRows_37 : decode cX8_countScannedRows 37 = .ok (.istore_n 1, 1) := by decide +kernel
theorem dX8_countScannedRows_38 : decode cX8_countScannedRows 38 = .ok (.iinc 2 1, 3) := by decide +kernel
theorem dX8_countScannedRows_41 : decode cX8_countScannedRows 41 = .ok (.goto (-37), 3) := by decide +kernel
theorem dX8_countScannedRows_44 : decode cX8_countScannedRows 44 = .ok (.iload_n 1, 1) := by decide +kernel
theorem dX8_countScannedRows_45 : decode cX8_countScannedRows 45 = .ok (.ireturn, 1) := by decide +kernel
theorem dX8_countRowsToRead_0 : decode cX8_countRowsToRead 0 = .ok (.iconst 0, 1) := by decide +kernel
theorem dX8_countRowsToRead_1 : decode cX8_countRowsToRead 1 = .ok (.istore_n 2, 1) := by decide +kernel
theorem dX8_countRowsToRead_2 : decode cX8_countRowsToRead 2 = .ok (.iconst 0, 1) := by decide +kernel
theorem dX8_countRowsToRead_3 : decode cX8_countRowsToRead 3 = .ok (.istore_n 3, 1) := by decide +kernel
theorem dX8_countRowsToRead_4 : decode cX8_countRowsToRead 4 = .ok (.iload_n 3, 1) := by decide +kernel
theorem dX8_countRowsToRead_5 : decode cX8_countRowsToRead 5 = .ok (.bipush 6, 2) := by decide +kernel
theorem dX8_countRowsToRead_7 : decode cX8_countRowsToRead 7 = .ok (.if_icmp .ge 63, 3) := by decide +kernel
theorem dX8_countRowsToRead_10 : decode cX8_countRowsToRead 10 = .ok (.aload_n 0, 1) := by decide +kernel
theorem dX8_countRowsToRead_11 : decode cX8_countRowsToRead 11 = .ok (.getfield 47, 3) := by decide +kernel
theorem dX8_countRowsToRead_14 : decode cX8_countRowsToRead 14 = .ok (.iload_n 3, 1) := by decide +kernel
theorem dX8_countRowsToRead_15 : decode cX8_countRowsToRead 15 = .ok (.iaload, 1) := by decide +kernel
theorem dX8_countRowsToRead_16 : decode cX8_countRowsToRead 16 = .ok (.invokestatic 179, 3) := by decide +kernel
theorem dX8_countRowsToRead_19 : decode cX8_countRowsToRead 19 = .ok (.istore 4, 2) := by decide +kernel
theorem dX8_countRowsToRead_21 : decode cX8_countRowsToRead 21 = .ok (.iload 4, 2) := by decide +kernel
theorem dX8_countRowsToRead_23 : decode cX8_countRowsToRead 23 = .ok (.iconst 2, 1) := by decide +kernel
theorem dX8_countRowsToRead_24 : decode cX8_countRowsToRead 24 = .ok (.if_icmp .eq 25, 3) := by decide +kernel
theorem dX8_countRowsToRead_27 : decode cX8_countRowsToRead 27 = .ok (.iload 4, 2) := by decide +kernel
theorem dX8_countRowsToRead_29 : decode cX8_countRowsToRead 29 = .ok (.iconst 1, 1) := by decide +kernel
theorem dX8_countRowsToRead_30 : decode cX8_countRowsToRead 30 = .ok (.if_icmp .ne 34, 3) := by decide +kernel
theorem dX8_countRowsToRead_33 : decode cX8_countRowsToRead 33 = .ok (.aload_n 0, 1) := by decide +kernel
theorem dX8_countRowsToRead_34 : decode cX8_countRowsToRead 34 = .ok (.getfield 12, 3) := by decide +kernel
theorem dX8_countRowsToRead_37 : decode cX8_countRowsToRead 37 = .ok (.getfield 71, 3) := by decide +kernel
theorem dX8_countRowsToRead_40 : decode cX8_countRowsToRead 40 = .ok (.iload_n 3, 1) := by decide +kernel
theorem dX8_countRowsToRead_41 : decode cX8_countRowsToRead 41 = .ok (.aaload, 1) := by decide +kernel
theorem dX8_countRowsToRead_42 : decode cX8_countRowsToRead 42 = .ok (.iload_n 1, 1) := by decide +kernel
theorem dX8_countRowsToRead_43 : decode cX8_countRowsToRead 43 = .ok (.invokevirtual 125, 3) := by decide +kernel
theorem dX8_countRowsToRead_46 : decode cX8_countRowsToRead 46 = .ok (.ifCond .eq 18, 3) := by decide +kernel
theorem dX8_countRowsToRead_49 : decode cX8_countRowsToRead 49 = .ok (.iload_n 2, 1) := by decide +kernel
theorem dX8_countRowsToRead_50 : decode cX8_countRowsToRead 50 = .ok (.aload_n 0, 1) := by decide +kernel
theorem dX8_countRowsToRead_51 : decode cX8_countRowsToRead 51 = .ok (.getfield 12, 3) := by decide +kernel
theorem dX8_countRowsToRead_54 : decode cX8_countRowsToRead 54 = .ok (.getfield 71, 3) := by decide +kernel
theorem dX8_countRowsToRead_57 : decode cX8_countRowsToRead 57 = .ok (.iload_n 3, 1) := by decide +kernel
theorem dX8_countRowsToRead_58 : decode cX8_countRowsToRead 58 = .ok (.aaload, 1) := by decide +kernel
theorem dX8_countRowsToRead_59 : decode cX8_countRowsToRead 59 = .ok (.getfield 156, 3) := by decide +kernel
theorem dX8_countRowsToRead_62 : decode cX8_countRowsToRead 62 = .ok (.iadd, 1) := by decide +kernel
theorem dX8_countRowsToRead_63 : decode cX8_countRowsToRead 63 = .ok (.istore_n 2, 1) := by decide +kernel
theorem dX8_countRowsToRead_64 : decode cX8_countRowsToRead 64 = .ok (.iinc 3 1, 3) := by decide +kernel
theorem dX8_countRowsToRead_67 : decode cX8_countRowsToRead 67 = .ok (.goto (-63), 3) := by decide +kernel
theorem dX8_countRowsToRead_70 : decode cX8_countRowsToRead 70 = .ok (.iload_n 2, 1) := by decide +kernel
theorem dX8_countRowsToRead_71 : decode cX8_countRowsToRead 71 = .ok (.ireturn, 1) := by decide +kernel
theorem dX8_isMatch_0 : decode cX8_isMatch 0 = .ok (.aload_n 0, 1) := by decide +kernel
theorem dX8_isMatch_1 : decode cX8_isMatch 1 = .ok (.getfield 32, 3) := by decide +kernel
theorem dX8_isMatch_4 : decode cX8_isMatch 4 = .ok (.aload_n 1, 1) := by decide +kernel
theorem dX8_isMatch_5 : decode cX8_isMatch 5 = .ok (.invokevirtual 148, 3) := by decide +kernel
theorem dX8_isMatch_8 : decode cX8_isMatch 8 = .ok (.iconst 1, 1) := by decide +kernel
theorem dX8_isMatch_9 : decode cX8_isMatch 9 = .ok (.if_icmp .ne 7, 3) := by decide +kernel
theorem dX8_isMatch_12 : decode cX8_isMatch 12 = .ok (.iconst 1, 1) := by decide +kernel
theorem dX8_isMatch_13 : decode cX8_isMatch 13 = .ok (.goto 4, 3) := by decide +kernel
theorem dX8_isMatch_16 : decode cX8_isMatch 16 = .ok (.iconst 0, 1) := by decide +kernel
theorem dX8_isMatch_17 : decode cX8_isMatch 17 = .ok (.ireturn, 1) := by decide +kernel
theorem dX8_countMatches_0 : decode cX8_countMatches 0 = .ok (.iconst 0, 1) := by decide +kernel
theorem dX8_countMatches_1 : decode cX8_countMatches 1 = .ok (.istore_n 1, 1) := by decide +kernel
theorem dX8_countMatches_2 : decode cX8_countMatches 2 = .ok (.iconst 0, 1) := by decide +kernel
theorem dX8_countMatches_3 : decode cX8_countMatches 3 = .ok (.istore_n 2, 1) := by decide +kernel
theorem dX8_countMatches_4 : decode cX8_countMatches 4 = .ok (.iload_n 2, 1) := by decide +kernel
theorem dX8_countMatches_5 : decode cX8_countMatches 5 = .ok (.bipush 6, 2) := by decide +kernel
theorem dX8_countMatches_7 : decode cX8_countMatches 7 = .ok (.if_icmp .ge 54, 3) := by decide +kernel
theorem dX8_countMatches_10 : decode cX8_countMatches 10 = .ok (.aload_n 0, 1) := by decide +kernel
theorem dX8_countMatches_11 : decode cX8_countMatches 11 = .ok (.getfield 12, 3) := by decide +kernel
theorem dX8_countMatches_14 : decode cX8_countMatches 14 = .ok (.getfield 71, 3) := by decide +kernel
theorem dX8_countMatches_17 : decode cX8_countMatches 17 = .ok (.iload_n 2, 1) := by decide +kernel
theorem dX8_countMatches_18 : decode cX8_countMatches 18 = .ok (.aaload, 1) := by decide +kernel
theorem dX8_countMatches_19 : decode cX8_countMatches 19 = .ok (.astore_n 3, 1) := by decide +kernel
theorem dX8_countMatches_20 : decode cX8_countMatches 20 = .ok (.iconst 0, 1) := by decide +kernel
theorem dX8_countMatches_21 : decode cX8_countMatches 21 = .ok (.istore 4, 2) := by decide +kernel
theorem dX8_countMatches_23 : decode cX8_countMatches 23 = .ok (.iload 4, 2) := by decide +kernel
theorem dX8_countMatches_25 : decode cX8_countMatches 25 = .ok (.aload_n 3, 1) := by decide +kernel
theorem dX8_countMatches_26 : decode cX8_countMatches 26 = .ok (.getfield 156, 3) := by decide +kernel
theorem dX8_countMatches_29 : decode cX8_countMatches 29 = .ok (.if_icmp .ge 26, 3) := by decide +kernel
theorem dX8_countMatches_32 : decode cX8_countMatches 32 = .ok (.aload_n 0, 1) := by decide +kernel
theorem dX8_countMatches_33 : decode cX8_countMatches 33 = .ok (.aload_n 3, 1) := by decide +kernel
theorem dX8_countMatches_34 : decode cX8_countMatches 34 = .ok (.getfield 97, 3) := by decide +kernel
theorem dX8_countMatches_37 : decode cX8_countMatches 37 = .ok (.iload 4, 2) := by decide +kernel
theorem dX8_countMatches_39 : decode cX8_countMatches 39 = .ok (.aaload, 1) := by decide +kernel
theorem dX8_countMatches_40 : decode cX8_countMatches 40 = .ok (.invokevirtual 233, 3) := by decide +kernel
theorem dX8_countMatches_43 : decode cX8_countMatches 43 = .ok (.ifCond .eq 6, 3) := by decide +kernel
theorem dX8_countMatches_46 : decode cX8_countMatches 46 = .ok (.iinc 1 1, 3) := by decide +kernel
theorem dX8_countMatches_49 : decode cX8_countMatches 49 = .ok (.iinc 4 1, 3) := by decide +kernel
theorem dX8_countMatches_52 : decode cX8_countMatches 52 = .ok (.goto (-29), 3) := by decide +kernel
theorem dX8_countMatches_55 : decode cX8_countMatches 55 = .ok (.iinc 2 1, 3) := by decide +kernel
theorem dX8_countMatches_58 : decode cX8_countMatches 58 = .ok (.goto (-54), 3) := by decide +kernel
theorem dX8_countMatches_61 : decode cX8_countMatches 61 = .ok (.iload_n 1, 1) := by decide +kernel
theorem dX8_countMatches_62 : decode cX8_countMatches 62 = .ok (.ireturn, 1) := by decide +kernel
theorem dX8_countUnlikeMatches_0 : decode cX8_countUnlikeMatches 0 = .ok (.aload_n 0, 1) := by decide +kernel
theorem dX8_countUnlikeMatches_1 : decode cX8_countUnlikeMatches 1 = .ok (.getfield 53, 3) := by decide +kernel
theorem dX8_countUnlikeMatches_4 : decode cX8_countUnlikeMatches 4 = .ok (.invokevirtual 237, 3) := by decide +kernel
theorem dX8_countUnlikeMatches_7 : decode cX8_countUnlikeMatches 7 = .ok (.iconst 0, 1) := by decide +kernel
theorem dX8_countUnlikeMatches_8 : decode cX8_countUnlikeMatches 8 = .ok (.istore_n 1, 1) := by decide +kernel
theorem dX8_countUnlikeMatches_9 : decode cX8_countUnlikeMatches 9 = .ok (.iload_n 1, 1) := by decide +kernel
theorem dX8_countUnlikeMatches_10 : decode cX8_countUnlikeMatches 10 = .ok (.bipush 6, 2) := by decide +kernel
theorem dX8_countUnlikeMatches_12 : decode cX8_countUnlikeMatches 12 = .ok (.if_icmp .ge 61, 3) := by decide +kernel
theorem dX8_countUnlikeMatches_15 : decode cX8_countUnlikeMatches 15 = .ok (.aload_n 0, 1) := by decide +kernel
theorem dX8_countUnlikeMatches_16 : decode cX8_countUnlikeMatches 16 = .ok (.getfield 12, 3) := by decide +kernel
theorem dX8_countUnlikeMatches_19 : decode cX8_countUnlikeMatches 19 = .ok (.getfield 71, 3) := by decide +kernel
theorem dX8_countUnlikeMatches_22 : decode cX8_countUnlikeMatches 22 = .ok (.iload_n 1, 1) := by decide +kernel
theorem dX8_countUnlikeMatches_23 : decode cX8_countUnlikeMatches 23 = .ok (.aaload, 1) := by decide +kernel
theorem dX8_countUnlikeMatches_24 : decode cX8_countUnlikeMatches 24 = .ok (.astore_n 2, 1) := by decide +kernel
theorem dX8_countUnlikeMatches_25 : decode cX8_countUnlikeMatches 25 = .ok (.iconst 0, 1) := by decide +kernel
theorem dX8_countUnlikeMatches_26 : decode cX8_countUnlikeMatches 26 = .ok (.istore_n 3, 1) := by decide +kernel
theorem dX8_countUnlikeMatches_27 : decode cX8_countUnlikeMatches 27 = .ok (.iload_n 3, 1) := by decide +kernel
theorem dX8_countUnlikeMatches_28 : decode cX8_countUnlikeMatches 28 = .ok (.aload_n 2, 1) := by decide +kernel
theorem dX8_countUnlikeMatches_29 : decode cX8_countUnlikeMatches 29 = .ok (.getfield 156, 3) := by decide +kernel
theorem dX8_countUnlikeMatches_32 : decode cX8_countUnlikeMatches 32 = .ok (.if_icmp .ge 35, 3) := by decide +kernel
theorem dX8_countUnlikeMatches_35 : decode cX8_countUnlikeMatches 35 = .ok (.aload_n 0, 1) := by decide +kernel
theorem dX8_countUnlikeMatches_36 : decode cX8_countUnlikeMatches 36 = .ok (.aload_n 2, 1) := by decide +kernel
theorem dX8_countUnlikeMatches_37 : decode cX8_countUnlikeMatches 37 = .ok (.getfield 97, 3) := by decide +kernel
theorem dX8_countUnlikeMatches_40 : decode cX8_countUnlikeMatches 40 = .ok (.iload_n 3, 1) := by decide +kernel
theorem dX8_countUnlikeMatches_41 : decode cX8_countUnlikeMatches 41 = .ok (.aaload, 1) := by decide +kernel
theorem dX8_countUnlikeMatches_42 : decode cX8_countUnlikeMatches 42 = .ok (.invokevirtual 233, 3) := by decide +kernel
theorem dX8_countUnlikeMatches_45 : decode cX8_countUnlikeMatches 45 = .ok (.ifCond .eq 16, 3) := by decide +kernel
theorem dX8_countUnlikeMatches_48 : decode cX8_countUnlikeMatches 48 = .ok (.aload_n 0, 1) := by decide +kernel
theorem dX8_countUnlikeMatches_49 : decode cX8_countUnlikeMatches 49 = .ok (.getfield 53, 3) := by decide +kernel
theorem dX8_countUnlikeMatches_52 : decode cX8_countUnlikeMatches 52 = .ok (.aload_n 2, 1) := by decide +kernel
theorem dX8_countUnlikeMatches_53 : decode cX8_countUnlikeMatches 53 = .ok (.getfield 97, 3) := by decide +kernel
theorem dX8_countUnlikeMatches_56 : decode cX8_countUnlikeMatches 56 = .ok (.iload_n 3, 1) := by decide +kernel
theorem dX8_countUnlikeMatches_57 : decode cX8_countUnlikeMatches 57 = .ok (.aaload, 1) := by decide +kernel
theorem dX8_countUnlikeMatches_58 : decode cX8_countUnlikeMatches 58 = .ok (.invokevirtual 238, 3) := by decide +kernel
theorem dX8_countUnlikeMatches_61 : decode cX8_countUnlikeMatches 61 = .ok (.iinc 3 1, 3) := by decide +kernel
theorem dX8_countUnlikeMatches_64 : decode cX8_countUnlikeMatches 64 = .ok (.goto (-37), 3) := by decide +kernel
theorem dX8_countUnlikeMatches_67 : decode cX8_countUnlikeMatches 67 = .ok (.iinc 1 1, 3) := by decide +kernel
theorem dX8_countUnlikeMatches_70 : decode cX8_countUnlikeMatches 70 = .ok (.goto (-61), 3) := by decide +kernel
theorem dX8_countUnlikeMatches_73 : decode cX8_countUnlikeMatches 73 = .ok (.aload_n 0, 1) := by decide +kernel
theorem dX8_countUnlikeMatches_74 : decode cX8_countUnlikeMatches 74 = .ok (.getfield 53, 3) := by decide +kernel
theorem dX8_countUnlikeMatches_77 : decode cX8_countUnlikeMatches 77 = .ok (.getfield 242, 3) := by decide +kernel
theorem dX8_countUnlikeMatches_80 : decode cX8_countUnlikeMatches 80 = .ok (.ireturn, 1) := by decide +kernel
theorem dX8_countUnlike_0 : decode cX8_countUnlike 0 = .ok (.aload_n 0, 1) := by decide +kernel
theorem dX8_countUnlike_1 : decode cX8_countUnlike 1 = .ok (.getfield 53, 3) := by decide +kernel
theorem dX8_countUnlike_4 : decode cX8_countUnlike 4 = .ok (.invokevirtual 237, 3) := by decide +kernel
theorem dX8_countUnlike_7 : decode cX8_countUnlike 7 = .ok (.iconst 0, 1) := by decide +kernel
theorem dX8_countUnlike_8 : decode cX8_countUnlike 8 = .ok (.istore_n 2, 1) := by decide +kernel
theorem dX8_countUnlike_9 : decode cX8_countUnlike 9 = .ok (.iload_n 2, 1) := by decide +kernel
theorem dX8_countUnlike_10 : decode cX8_countUnlike 10 = .ok (.aload_n 1, 1) := by decide +kernel
theorem dX8_countUnlike_11 : decode cX8_countUnlike 11 = .ok (.getfield 156, 3) := by decide +kernel
theorem dX8_countUnlike_14 : decode cX8_countUnlike 14 = .ok (.if_icmp .ge 22, 3) := by decide +kernel
theorem dX8_countUnlike_17 : decode cX8_countUnlike 17 = .ok (.aload_n 0, 1) := by decide +kernel
theorem dX8_countUnlike_18 : decode cX8_countUnlike 18 = .ok (.getfield 53, 3) := by decide +kernel
theorem dX8_countUnlike_21 : decode cX8_countUnlike 21 = .ok (.aload_n 1, 1) := by decide +kernel
theorem dX8_countUnlike_22 : decode cX8_countUnlike 22 = .ok (.getfield 97, 3) := by decide +kernel
theorem dX8_countUnlike_25 : decode cX8_countUnlike 25 = .ok (.iload_n 2, 1) := by decide +kernel
theorem dX8_countUnlike_26 : decode cX8_countUnlike 26 = .ok (.aaload, 1) := by decide +kernel
theorem dX8_countUnlike_27 : decode cX8_countUnlike 27 = .ok (.invokevirtual 238, 3) := by decide +kernel
theorem dX8_countUnlike_30 : decode cX8_countUnlike 30 = .ok (.iinc 2 1, 3) := by decide +kernel
theorem dX8_countUnlike_33 : decode cX8_countUnlike 33 = .ok (.goto (-24), 3) := by decide +kernel
theorem dX8_countUnlike_36 : decode cX8_countUnlike 36 = .ok (.aload_n 0, 1) := by decide +kernel
theorem dX8_countUnlike_37 : decode cX8_countUnlike 37 = .ok (.getfield 53, 3) := by decide +kernel
theorem dX8_countUnlike_40 : decode cX8_countUnlike 40 = .ok (.getfield 242, 3) := by decide +kernel
theorem dX8_countUnlike_43 : decode cX8_countUnlike 43 = .ok (.ireturn, 1) := by decide +kernel
theorem dX8_tallyMatches_0 : decode cX8_tallyMatches 0 = .ok (.aload_n 0, 1) := by decide +kernel
theorem dX8_tallyMatches_1 : decode cX8_tallyMatches 1 = .ok (.getfield 60, 3) := by decide +kernel
theorem dX8_tallyMatches_4 : decode cX8_tallyMatches 4 = .ok (.invokevirtual 243, 3) := by decide +kernel
theorem dX8_tallyMatches_7 : decode cX8_tallyMatches 7 = .ok (.iconst 0, 1) := by decide +kernel
theorem dX8_tallyMatches_8 : decode cX8_tallyMatches 8 = .ok (.istore_n 2, 1) := by decide +kernel
theorem dX8_tallyMatches_9 : decode cX8_tallyMatches 9 = .ok (.iload_n 2, 1) := by decide +kernel
theorem dX8_tallyMatches_10 : decode cX8_tallyMatches 10 = .ok (.bipush 6, 2) := by decide +kernel
theorem dX8_tallyMatches_12 : decode cX8_tallyMatches 12 = .ok (.if_icmp .ge 67, 3) := by decide +kernel
theorem dX8_tallyMatches_15 : decode cX8_tallyMatches 15 = .ok (.aload_n 0, 1) := by decide +kernel
theorem dX8_tallyMatches_16 : decode cX8_tallyMatches 16 = .ok (.getfield 12, 3) := by decide +kernel
theorem dX8_tallyMatches_19 : decode cX8_tallyMatches 19 = .ok (.getfield 71, 3) := by decide +kernel
theorem dX8_tallyMatches_22 : decode cX8_tallyMatches 22 = .ok (.iload_n 2, 1) := by decide +kernel
theorem dX8_tallyMatches_23 : decode cX8_tallyMatches 23 = .ok (.aaload, 1) := by decide +kernel
theorem dX8_tallyMatches_24 : decode cX8_tallyMatches 24 = .ok (.astore_n 3, 1) := by decide +kernel
theorem dX8_tallyMatches_25 : decode cX8_tallyMatches 25 = .ok (.iconst 0, 1) := by decide +kernel
theorem dX8_tallyMatches_26 : decode cX8_tallyMatches 26 = .ok (.istore 4, 2) := by decide +kernel
theorem dX8_tallyMatches_28 : decode cX8_tallyMatches 28 = .ok (.iload 4, 2) := by decide +kernel
theorem dX8_tallyMatches_30 : decode cX8_tallyMatches 30 = .ok (.aload_n 3, 1) := by decide +kernel
theorem dX8_tallyMatches_31 : decode cX8_tallyMatches 31 = .ok (.getfield 156, 3) := by decide +kernel
theorem dX8_tallyMatches_34 : decode cX8_tallyMatches 34 = .ok (.if_icmp .ge 39, 3) := by decide +kernel
theorem dX8_tallyMatches_37 : decode cX8_tallyMatches 37 = .ok (.aload_n 0, 1) := by decide +kernel
theorem dX8_tallyMatches_38 : decode cX8_tallyMatches 38 = .ok (.aload_n 3, 1) := by decide +kernel
theorem dX8_tallyMatches_39 : decode cX8_tallyMatches 39 = .ok (.getfield 97, 3) := by decide +kernel
theorem dX8_tallyMatches_42 : decode cX8_tallyMatches 42 = .ok (.iload 4, 2) := by decide +kernel
theorem dX8_tallyMatches_44 : decode cX8_tallyMatches 44 = .ok (.aaload, 1) := by decide +kernel
theorem dX8_tallyMatches_45 : decode cX8_tallyMatches 45 = .ok (.invokevirtual 233, 3) := by decide +kernel
theorem dX8_tallyMatches_48 : decode cX8_tallyMatches 48 = .ok (.ifCond .eq 19, 3) := by decide +kernel
theorem dX8_tallyMatches_51 : decode cX8_tallyMatches 51 = .ok (.aload_n 0, 1) := by decide +kernel
theorem dX8_tallyMatches_52 : decode cX8_tallyMatches 52 = .ok (.getfield 60, 3) := by decide +kernel
theorem dX8_tallyMatches_55 : decode cX8_tallyMatches 55 = .ok (.aload_n 3, 1) := by decide +kernel
theorem dX8_tallyMatches_56 : decode cX8_tallyMatches 56 = .ok (.getfield 97, 3) := by decide +kernel
theorem dX8_tallyMatches_59 : decode cX8_tallyMatches 59 = .ok (.iload 4, 2) := by decide +kernel
theorem dX8_tallyMatches_61 : decode cX8_tallyMatches 61 = .ok (.aaload, 1) := by decide +kernel
theorem dX8_tallyMatches_62 : decode cX8_tallyMatches 62 = .ok (.iload_n 1, 1) := by decide +kernel
theorem dX8_tallyMatches_63 : decode cX8_tallyMatches 63 = .ok (.iaload, 1) := by decide +kernel
theorem dX8_tallyMatches_64 : decode cX8_tallyMatches 64 = .ok (.invokevirtual 244, 3) := by decide +kernel
theorem dX8_tallyMatches_67 : decode cX8_tallyMatches 67 = .ok (.iinc 4 1, 3) := by decide +kernel
theorem dX8_tallyMatches_70 : decode cX8_tallyMatches 70 = .ok (.goto (-42), 3) := by decide +kernel
theorem dX8_tallyMatches_73 : decode cX8_tallyMatches 73 = .ok (.iinc 2 1, 3) := by decide +kernel
theorem dX8_tallyMatches_76 : decode cX8_tallyMatches 76 = .ok (.goto (-67), 3) := by decide +kernel
theorem dX8_tallyMatches_79 : decode cX8_tallyMatches 79 = .ok (.return_, 1) := by decide +kernel
theorem dX8_isLetter_0 : decode cX8_isLetter 0 = .ok (.iload_n 0, 1) := by decide +kernel
theorem dX8_isLetter_1 : decode cX8_isLetter 1 = .ok (.bipush 97, 2) := by decide +kernel
theorem dX8_isLetter_3 : decode cX8_isLetter 3 = .ok (.if_icmp .lt 13, 3) := by decide +kernel
theorem dX8_isLetter_6 : decode cX8_isLetter 6 = .ok (.iload_n 0, 1) := by decide +kernel
theorem dX8_isLetter_7 : decode cX8_isLetter 7 = .ok (.bipush 100, 2) := by decide +kernel
theorem dX8_isLetter_9 : decode cX8_isLetter 9 = .ok (.if_icmp .gt 7, 3) := by decide +kernel
theorem dX8_isLetter_12 : decode cX8_isLetter 12 = .ok (.iconst 1, 1) := by decide +kernel
theorem dX8_isLetter_13 : decode cX8_isLetter 13 = .ok (.goto 4, 3) := by decide +kernel
theorem dX8_isLetter_16 : decode cX8_isLetter 16 = .ok (.iconst 0, 1) := by decide +kernel
theorem dX8_isLetter_17 : decode cX8_isLetter 17 = .ok (.ireturn, 1) := by decide +kernel
theorem dX8_isFigure_0 : decode cX8_isFigure 0 = .ok (.iload_n 0, 1) := by decide +kernel
theorem dX8_isFigure_1 : decode cX8_isFigure 1 = .ok (.bipush 48, 2) := by decide +kernel
theorem dX8_isFigure_3 : decode cX8_isFigure 3 = .ok (.if_icmp .lt 13, 3) := by decide +kernel
theorem dX8_isFigure_6 : decode cX8_isFigure 6 = .ok (.iload_n 0, 1) := by decide +kernel
theorem dX8_isFigure_7 : decode cX8_isFigure 7 = .ok (.bipush 57, 2) := by decide +kernel
theorem dX8_isFigure_9 : decode cX8_isFigure 9 = .ok (.if_icmp .gt 7, 3) := by decide +kernel
theorem dX8_isFigure_12 : decode cX8_isFigure 12 = .ok (.iconst 1, 1) := by decide +kernel
theorem dX8_isFigure_13 : decode cX8_isFigure 13 = .ok (.goto 4, 3) := by decide +kernel
theorem dX8_isFigure_16 : decode cX8_isFigure 16 = .ok (.iconst 0, 1) := by decide +kernel
theorem dX8_isFigure_17 : decode cX8_isFigure 17 = .ok (.ireturn, 1) := by decide +kernel
theorem dX8_isSum_0 : decode cX8_isSum 0 = .ok (.iload_n 0, 1) := by decide +kernel
theorem dX8_isSum_1 : decode cX8_isSum 1 = .ok (.bipush 43, 2) := by decide +kernel
theorem dX8_isSum_3 : decode cX8_isSum 3 = .ok (.if_icmp .eq 15, 3) := by decide +kernel
theorem dX8_isSum_6 : decode cX8_isSum 6 = .ok (.iload_n 0, 1) := by decide +kernel
theorem dX8_isSum_7 : decode cX8_isSum 7 = .ok (.bipush 45, 2) := by decide +kernel
theorem dX8_isSum_9 : decode cX8_isSum 9 = .ok (.if_icmp .eq 9, 3) := by decide +kernel
theorem dX8_isSum_12 : decode cX8_isSum 12 = .ok (.iload_n 0, 1) := by decide +kernel
theorem dX8_isSum_13 : decode cX8_isSum 13 = .ok (.bipush 42, 2) := by decide +kernel
theorem dX8_isSum_15 : decode cX8_isSum 15 = .ok (.if_icmp .ne 7, 3) := by decide +kernel
theorem dX8_isSum_18 : decode cX8_isSum 18 = .ok (.iconst 1, 1) := by decide +kernel
theorem dX8_isSum_19 : decode cX8_isSum 19 = .ok (.goto 4, 3) := by decide +kernel
theorem dX8_isSum_22 : decode cX8_isSum 22 = .ok (.iconst 0, 1) := by decide +kernel
theorem dX8_isSum_23 : decode cX8_isSum 23 = .ok (.ireturn, 1) := by decide +kernel
theorem dX8_hasSecond_0 : decode cX8_hasSecond 0 = .ok (.iload_n 0, 1) := by decide +kernel
theorem dX8_hasSecond_1 : decode cX8_hasSecond 1 = .ok (.invokestatic 246, 3) := by decide +kernel
theorem dX8_hasSecond_4 : decode cX8_hasSecond 4 = .ok (.ifCond .ne 33, 3) := by decide +kernel
theorem dX8_hasSecond_7 : decode cX8_hasSecond 7 = .ok (.iload_n 0, 1) := by decide +kernel
theorem dX8_hasSecond_8 : decode cX8_hasSecond 8 = .ok (.bipush 37, 2) := by decide +kernel
theorem dX8_hasSecond_10 : decode cX8_hasSecond 10 = .ok (.if_icmp .eq 27, 3) := by decide +kernel
theorem dX8_hasSecond_13 : decode cX8_hasSecond 13 = .ok (.iload_n 0, 1) := by decide +kernel
theorem dX8_hasSecond_14 : decode cX8_hasSecond 14 = .ok (.bipush 60, 2) := by decide +kernel
theorem dX8_hasSecond_16 : decode cX8_hasSecond 16 = .ok (.if_icmp .eq 21, 3) := by decide +kernel
theorem dX8_hasSecond_19 : decode cX8_hasSecond 19 = .ok (.iload_n 0, 1) := by decide +kernel
theorem dX8_hasSecond_20 : decode cX8_hasSecond 20 = .ok (.bipush 61, 2) := by decide +kernel
theorem dX8_hasSecond_22 : decode cX8_hasSecond 22 = .ok (.if_icmp .eq 15, 3) := by decide +kernel
theorem dX8_hasSecond_25 : decode cX8_hasSecond 25 = .ok (.iload_n 0, 1) := by decide +kernel
theorem dX8_hasSecond_26 : decode cX8_hasSecond 26 = .ok (.bipush 38, 2) := by decide +kernel
theorem dX8_hasSecond_28 : decode cX8_hasSecond 28 = .ok (.if_icmp .eq 9, 3) := by decide +kernel
theorem dX8_hasSecond_31 : decode cX8_hasSecond 31 = .ok (.iload_n 0, 1) := by decide +kernel
theorem dX8_hasSecond_32 : decode cX8_hasSecond 32 = .ok (.bipush 124, 2) := by decide +kernel
theorem dX8_hasSecond_34 : decode cX8_hasSecond 34 = .ok (.if_icmp .ne 7, 3) := by decide +kernel
theorem dX8_hasSecond_37 : decode cX8_hasSecond 37 = .ok (.iconst 1, 1) := by decide +kernel
theorem dX8_hasSecond_38 : decode cX8_hasSecond 38 = .ok (.goto 4, 3) := by decide +kernel
theorem dX8_hasSecond_41 : decode cX8_hasSecond 41 = .ok (.iconst 0, 1) := by decide +kernel
theorem dX8_hasSecond_42 : decode cX8_hasSecond 42 = .ok (.ireturn, 1) := by decide +kernel
theorem dX8_at_0 : decode cX8_at 0 = .ok (.iload_n 1, 1) := by decide +kernel
theorem dX8_at_1 : decode cX8_at 1 = .ok (.ifCond .lt 15, 3) := by decide +kernel
theorem dX8_at_4 : decode cX8_at 4 = .ok (.iload_n 1, 1) := by decide +kernel
theorem dX8_at_5 : decode cX8_at 5 = .ok (.aload_n 0, 1) := by decide +kernel
theorem dX8_at_6 : decode cX8_at 6 = .ok (.arraylength, 1) := by decide +kernel
theorem dX8_at_7 : decode cX8_at 7 = .ok (.if_icmp .ge 9, 3) := by decide +kernel
theorem dX8_at_10 : decode cX8_at 10 = .ok (.aload_n 0, 1) := by decide +kernel
theorem dX8_at_11 : decode cX8_at 11 = .ok (.iload_n 1, 1) := by decide +kernel
theorem dX8_at_12 : decode cX8_at 12 = .ok (.iaload, 1) := by decide +kernel
theorem dX8_at_13 : decode cX8_at 13 = .ok (.goto 4, 3) := by decide +kernel
theorem dX8_at_16 : decode cX8_at 16 = .ok (.iconst 0, 1) := by decide +kernel
theorem dX8_at_17 : decode cX8_at 17 = .ok (.ireturn, 1) := by decide +kernel
theorem dX8_sumOf_0 : decode cX8_sumOf 0 = .ok (.iload_n 1, 1) := by decide +kernel
theorem dX8_sumOf_1 : decode cX8_sumOf 1 = .ok (.i2l, 1) := by decide +kernel
theorem dX8_sumOf_2 : decode cX8_sumOf 2 = .ok (.iload_n 2, 1) := by decide +kernel
theorem dX8_sumOf_3 : decode cX8_sumOf 3 = .ok (.i2l, 1) := by decide +kernel
theorem dX8_sumOf_4 : decode cX8_sumOf 4 = .ok (.lmul, 1) := by decide +kernel
theorem dX8_sumOf_5 : decode cX8_sumOf 5 = .ok (.lstore_n 3, 1) := by decide +kernel
theorem dX8_sumOf_6 : decode cX8_sumOf 6 = .ok (.iload_n 0, 1) := by decide +kernel
theorem dX8_sumOf_7 : decode cX8_sumOf 7 = .ok (.bipush 43, 2) := by decide +kernel
theorem dX8_sumOf_9 : decode cX8_sumOf 9 = .ok (.if_icmp .ne 12, 3) := by decide +kernel
theorem dX8_sumOf_12 : decode cX8_sumOf 12 = .ok (.iload_n 1, 1) := by decide +kernel
theorem dX8_sumOf_13 : decode cX8_sumOf 13 = .ok (.i2l, 1) := by decide +kernel
theorem dX8_sumOf_14 : decode cX8_sumOf 14 = .ok (.iload_n 2, 1) := by decide +kernel
theorem dX8_sumOf_15 : decode cX8_sumOf 15 = .ok (.i2l, 1) := by decide +kernel
theorem dX8_sumOf_16 : decode cX8_sumOf 16 = .ok (.ladd, 1) := by decide +kernel
theorem dX8_sumOf_17 : decode cX8_sumOf 17 = .ok (.lstore_n 3, 1) := by decide +kernel
theorem dX8_sumOf_18 : decode cX8_sumOf 18 = .ok (.goto 15, 3) := by decide +kernel
theorem dX8_sumOf_21 : decode cX8_sumOf 21 = .ok (.iload_n 0, 1) := by decide +kernel
theorem dX8_sumOf_22 : decode cX8_sumOf 22 = .ok (.bipush 45, 2) := by decide +kernel
theorem dX8_sumOf_24 : decode cX8_sumOf 24 = .ok (.if_icmp .ne 9, 3) := by decide +kernel
theorem dX8_sumOf_27 : decode cX8_sumOf 27 = .ok (.iload_n 1, 1) := by decide +kernel
theorem dX8_sumOf_28 : decode cX8_sumOf 28 = .ok (.i2l, 1) := by decide +kernel
theorem dX8_sumOf_29 : decode cX8_sumOf 29 = .ok (.iload_n 2, 1) := by decide +kernel
theorem dX8_sumOf_30 : decode cX8_sumOf 30 = .ok (.i2l, 1) := by decide +kernel
theorem dX8_sumOf_31 : decode cX8_sumOf 31 = .ok (.lsub, 1) := by decide +kernel
theorem dX8_sumOf_32 : decode cX8_sumOf 32 = .ok (.lstore_n 3, 1) := by decide +kernel
theorem dX8_sumOf_33 : decode cX8_sumOf 33 = .ok (.lload_n 3, 1) := by decide +kernel
theorem dX8_sumOf_34 : decode cX8_sumOf 34 = .ok (.ldc2_w 249, 3) := by decide +kernel
theorem dX8_sumOf_37 : decode cX8_sumOf 37 = .ok (.lcmp, 1) := by decide +kernel
theorem dX8_sumOf_38 : decode cX8_sumOf 38 = .ok (.ifCond .ge 6, 3) := by decide +kernel
theorem dX8_sumOf_41 : decode cX8_sumOf 41 = .ok (.ldc 251, 2) := by decide +kernel
theorem dX8_sumOf_43 : decode cX8_sumOf 43 = .ok (.ireturn, 1) := by decide +kernel
theorem dX8_sumOf_44 : decode cX8_sumOf 44 = .ok (.lload_n 3, 1) := by decide +kernel
theorem dX8_sumOf_45 : decode cX8_sumOf 45 = .ok (.ldc2_w 252, 3) := by decide +kernel
theorem dX8_sumOf_48 : decode cX8_sumOf 48 = .ok (.lcmp, 1) := by decide +kernel
theorem dX8_sumOf_49 : decode cX8_sumOf 49 = .ok (.ifCond .le 8, 3) := by decide +kernel
theorem dX8_sumOf_52 : decode cX8_sumOf 52 = .ok (.ldc 254, 2) := by decide +kernel
theorem dX8_sumOf_54 : decode cX8_sumOf 54 = .ok (.goto 5, 3) := by decide +kernel
theorem dX8_sumOf_57 : decode cX8_sumOf 57 = .ok (.lload_n 3, 1) := by decide +kernel
theorem dX8_sumOf_58 : decode cX8_sumOf 58 = .ok (.l2i, 1) := by decide +kernel
theorem dX8_sumOf_59 : decode cX8_sumOf 59 = .ok (.ireturn, 1) := by decide +kernel
theorem dX8_bothOf_0 : decode cX8_bothOf 0 = .ok (.iload_n 0, 1) := by decide +kernel
theorem dX8_bothOf_1 : decode cX8_bothOf 1 = .ok (.ifCond .eq 7, 3) := by decide +kernel
theorem dX8_bothOf_4 : decode cX8_bothOf 4 = .ok (.iload_n 1, 1) := by decide +kernel
theorem dX8_bothOf_5 : decode cX8_bothOf 5 = .ok (.ifCond .ne 5, 3) := by decide +kernel
theorem dX8_bothOf_8 : decode cX8_bothOf 8 = .ok (.iconst 0, 1) := by decide +kernel
theorem dX8_bothOf_9 : decode cX8_bothOf 9 = .ok (.ireturn, 1) := by decide +kernel
theorem dX8_bothOf_10 : decode cX8_bothOf 10 = .ok (.iload_n 0, 1) := by decide +kernel
theorem dX8_bothOf_11 : decode cX8_bothOf 11 = .ok (.iconst 2, 1) := by decide +kernel
theorem dX8_bothOf_12 : decode cX8_bothOf 12 = .ok (.if_icmp .eq 8, 3) := by decide +kernel
theorem dX8_bothOf_15 : decode cX8_bothOf 15 = .ok (.iload_n 1, 1) := by decide +kernel
theorem dX8_bothOf_16 : decode cX8_bothOf 16 = .ok (.iconst 2, 1) := by decide +kernel
theorem dX8_bothOf_17 : decode cX8_bothOf 17 = .ok (.if_icmp .ne 7, 3) := by decide +kernel
theorem dX8_bothOf_20 : decode cX8_bothOf 20 = .ok (.iconst 2, 1) := by decide +kernel
theorem dX8_bothOf_21 : decode cX8_bothOf 21 = .ok (.goto 4, 3) := by decide +kernel
theorem dX8_bothOf_24 : decode cX8_bothOf 24 = .ok (.iconst 1, 1) := by decide +kernel
theorem dX8_bothOf_25 : decode cX8_bothOf 25 = .ok (.ireturn, 1) := by decide +kernel
theorem dX8_eitherOf_0 : decode cX8_eitherOf 0 = .ok (.iload_n 0, 1) := by decide +kernel
theorem dX8_eitherOf_1 : decode cX8_eitherOf 1 = .ok (.iconst 1, 1) := by decide +kernel
theorem dX8_eitherOf_2 : decode cX8_eitherOf 2 = .ok (.if_icmp .eq 8, 3) := by decide +kernel
theorem dX8_eitherOf_5 : decode cX8_eitherOf 5 = .ok (.iload_n 1, 1) := by decide +kernel
theorem dX8_eitherOf_6 : decode cX8_eitherOf 6 = .ok (.iconst 1, 1) := by decide +kernel
theorem dX8_eitherOf_7 : decode cX8_eitherOf 7 = .ok (.if_icmp .ne 5, 3) := by decide +kernel
theorem dX8_eitherOf_10 : decode cX8_eitherOf 10 = .ok (.iconst 1, 1) := by decide +kernel
theorem dX8_eitherOf_11 : decode cX8_eitherOf 11 = .ok (.ireturn, 1) := by decide +kernel
theorem dX8_eitherOf_12 : decode cX8_eitherOf 12 = .ok (.iload_n 0, 1) := by decide +kernel
theorem dX8_eitherOf_13 : decode cX8_eitherOf 13 = .ok (.iconst 2, 1) := by decide +kernel
theorem dX8_eitherOf_14 : decode cX8_eitherOf 14 = .ok (.if_icmp .eq 8, 3) := by decide +kernel
theorem dX8_eitherOf_17 : decode cX8_eitherOf 17 = .ok (.iload_n 1, 1) := by decide +kernel
theorem dX8_eitherOf_18 : decode cX8_eitherOf 18 = .ok (.iconst 2, 1) := by decide +kernel
theorem dX8_eitherOf_19 : decode cX8_eitherOf 19 = .ok (.if_icmp .ne 7, 3) := by decide +kernel
theorem dX8_eitherOf_22 : decode cX8_eitherOf 22 = .ok (.iconst 2, 1) := by decide +kernel
theorem dX8_eitherOf_23 : decode cX8_eitherOf 23 = .ok (.goto 4, 3) := by decide +kernel
theorem dX8_eitherOf_26 : decode cX8_eitherOf 26 = .ok (.iconst 0, 1) := by decide +kernel
theorem dX8_eitherOf_27 : decode cX8_eitherOf 27 = .ok (.ireturn, 1) := by decide +kernel
theorem dX8_notOf_0 : decode cX8_notOf 0 = .ok (.iload_n 0, 1) := by decide +kernel
theorem dX8_notOf_1 : decode cX8_notOf 1 = .ok (.iconst 2, 1) := by decide +kernel
theorem dX8_notOf_2 : decode cX8_notOf 2 = .ok (.if_icmp .ne 5, 3) := by decide +kernel
theorem dX8_notOf_5 : decode cX8_notOf 5 = .ok (.iconst 2, 1) := by decide +kernel
theorem dX8_notOf_6 : decode cX8_notOf 6 = .ok (.ireturn, 1) := by decide +kernel
theorem dX8_notOf_7 : decode cX8_notOf 7 = .ok (.iload_n 0, 1) := by decide +kernel
theorem dX8_notOf_8 : decode cX8_notOf 8 = .ok (.iconst 1, 1) := by decide +kernel
theorem dX8_notOf_9 : decode cX8_notOf 9 = .ok (.if_icmp .ne 7, 3) := by decide +kernel
theorem dX8_notOf_12 : decode cX8_notOf 12 = .ok (.iconst 0, 1) := by decide +kernel
theorem dX8_notOf_13 : decode cX8_notOf 13 = .ok (.goto 4, 3) := by decide +kernel
theorem dX8_notOf_16 : decode cX8_notOf 16 = .ok (.iconst 1, 1) := by decide +kernel
theorem dX8_notOf_17 : decode cX8_notOf 17 = .ok (.ireturn, 1) := by decide +kernel
theorem dX8_chanceOf_0 : decode cX8_chanceOf 0 = .ok (.iload_n 0, 1) := by decide +kernel
theorem dX8_chanceOf_1 : decode cX8_chanceOf 1 = .ok (.iconst 2, 1) := by decide +kernel
theorem dX8_chanceOf_2 : decode cX8_chanceOf 2 = .ok (.if_icmp .ne 5, 3) := by decide +kernel
theorem dX8_chanceOf_5 : decode cX8_chanceOf 5 = .ok (.iconst 4, 1) := by decide +kernel
theorem dX8_chanceOf_6 : decode cX8_chanceOf 6 = .ok (.ireturn, 1) := by decide +kernel
theorem dX8_chanceOf_7 : decode cX8_chanceOf 7 = .ok (.iload_n 0, 1) := by decide +kernel
theorem dX8_chanceOf_8 : decode cX8_chanceOf 8 = .ok (.iconst 1, 1) := by decide +kernel
theorem dX8_chanceOf_9 : decode cX8_chanceOf 9 = .ok (.if_icmp .ne 7, 3) := by decide +kernel
theorem dX8_chanceOf_12 : decode cX8_chanceOf 12 = .ok (.iconst 1, 1) := by decide +kernel
theorem dX8_chanceOf_13 : decode cX8_chanceOf 13 = .ok (.goto 4, 3) := by decide +kernel
theorem dX8_chanceOf_16 : decode cX8_chanceOf 16 = .ok (.iconst 2, 1) := by decide +kernel
theorem dX8_chanceOf_17 : decode cX8_chanceOf 17 = .ok (.ireturn, 1) := by decide +kernel
