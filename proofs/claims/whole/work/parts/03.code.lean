theorem dX0_init_0 : decode cX0_init 0 = .ok (.aload_n 0, 1) := by decide +kernel
theorem dX0_init_1 : decode cX0_init 1 = .ok (.invokespecial 3, 3) := by decide +kernel
theorem dX0_init_4 : decode cX0_init 4 = .ok (.aload_n 0, 1) := by decide +kernel
theorem dX0_init_5 : decode cX0_init 5 = .ok (.bipush 8, 2) := by decide +kernel
theorem dX0_init_7 : decode cX0_init 7 = .ok (.iconst 4, 1) := by decide +kernel
theorem dX0_init_8 : decode cX0_init 8 = .ok (.multianewarray 9 2, 4) := by decide +kernel
theorem dX0_init_12 : decode cX0_init 12 = .ok (.putfield 11, 3) := by decide +kernel
theorem dX0_init_15 : decode cX0_init 15 = .ok (.aload_n 0, 1) := by decide +kernel
theorem dX0_init_16 : decode cX0_init 16 = .ok (.iconst 4, 1) := by decide +kernel
theorem dX0_init_17 : decode cX0_init 17 = .ok (.anewarray 16, 3) := by decide +kernel
theorem dX0_init_20 : decode cX0_init 20 = .ok (.putfield 18, 3) := by decide +kernel
theorem dX0_init_23 : decode cX0_init 23 = .ok (.iconst 0, 1) := by decide +kernel
theorem dX0_init_24 : decode cX0_init 24 = .ok (.istore_n 1, 1) := by decide +kernel
theorem dX0_init_25 : decode cX0_init 25 = .ok (.iload_n 1, 1) := by decide +kernel
theorem dX0_init_26 : decode cX0_init 26 = .ok (.iconst 4, 1) := by decide +kernel
theorem dX0_init_27 : decode cX0_init 27 = .ok (.if_icmp .ge 22, 3) := by decide +kernel
theorem dX0_init_30 : decode cX0_init 30 = .ok (.aload_n 0, 1) := by decide +kernel
theorem dX0_init_31 : decode cX0_init 31 = .ok (.getfield 18, 3) := by decide +kernel
theorem dX0_init_34 : decode cX0_init 34 = .ok (.iload_n 1, 1) := by decide +kernel
theorem dX0_init_35 : decode cX0_init 35 = .ok (.new 16, 3) := by decide +kernel
theorem dX0_init_38 : decode cX0_init 38 = .ok (.dup, 1) := by decide +kernel
theorem dX0_init_39 : decode cX0_init 39 = .ok (.invokespecial 22, 3) := by decide +kernel
theorem dX0_init_42 : decode cX0_init 42 = .ok (.aastore, 1) := by decide +kernel
theorem dX0_init_43 : decode cX0_init 43 = .ok (.iinc 1 1, 3) := by decide +kernel
theorem dX0_init_46 : decode cX0_init 46 = .ok (.goto (-21), 3) := by decide +kernel
theorem dX0_init_49 : decode cX0_init 49 = .ok (.aload_n 0, 1) := by decide +kernel
theorem dX0_init_50 : decode cX0_init 50 = .ok (.new 16, 3) := by decide +kernel
theorem dX0_init_53 : decode cX0_init 53 = .ok (.dup, 1) := by decide +kernel
theorem dX0_init_54 : decode cX0_init 54 = .ok (.invokespecial 22, 3) := by decide +kernel
theorem dX0_init_57 : decode cX0_init 57 = .ok (.putfield 23, 3) := by decide +kernel
theorem dX0_init_60 : decode cX0_init 60 = .ok (.return_, 1) := by decide +kernel
theorem dX0_append_0 : decode cX0_append 0 = .ok (.aload_n 0, 1) := by decide +kernel
theorem dX0_append_1 : decode cX0_append 1 = .ok (.getfield 27, 3) := by decide +kernel
theorem dX0_append_4 : decode cX0_append 4 = .ok (.bipush 8, 2) := by decide +kernel
theorem dX0_append_6 : decode cX0_append 6 = .ok (.if_icmp .lt 6, 3) := by decide +kernel
theorem dX0_append_9 : decode cX0_append 9 = .ok (.bipush (-4), 2) := by decide +kernel
theorem dX0_append_11 : decode cX0_append 11 = .ok (.ireturn, 1) := by decide +kernel
theorem dX0_append_12 : decode cX0_append 12 = .ok (.aload_n 0, 1) := by decide +kernel
theorem dX0_append_13 : decode cX0_append 13 = .ok (.getfield 11, 3) := by decide +kernel
theorem dX0_append_16 : decode cX0_append 16 = .ok (.aload_n 0, 1) := by decide +kernel
theorem dX0_append_17 : decode cX0_append 17 = .ok (.getfield 27, 3) := by decide +kernel
theorem dX0_append_20 : decode cX0_append 20 = .ok (.aaload, 1) := by decide +kernel
theorem dX0_append_21 : decode cX0_append 21 = .ok (.astore 5, 2) := by decide +kernel
theorem dX0_append_23 : decode cX0_append 23 = .ok (.aload 5, 2) := by decide +kernel
theorem dX0_append_25 : decode cX0_append 25 = .ok (.iconst 0, 1) := by decide +kernel
theorem dX0_append_26 : decode cX0_append 26 = .ok (.iload_n 1, 1) := by decide +kernel
theorem dX0_append_27 : decode cX0_append 27 = .ok (.iastore, 1) := by decide +kernel
theorem dX0_append_28 : decode cX0_append 28 = .ok (.aload 5, 2) := by decide +kernel
theorem dX0_append_30 : decode cX0_append 30 = .ok (.iconst 1, 1) := by decide +kernel
theorem dX0_append_31 : decode cX0_append 31 = .ok (.iload_n 2, 1) := by decide +kernel
theorem dX0_append_32 : decode cX0_append 32 = .ok (.iastore, 1) := by decide +kernel
theorem dX0_append_33 : decode cX0_append 33 = .ok (.aload 5, 2) := by decide +kernel
theorem dX0_append_35 : decode cX0_append 35 = .ok (.iconst 2, 1) := by decide +kernel
theorem dX0_append_36 : decode cX0_append 36 = .ok (.iload_n 3, 1) := by decide +kernel
theorem dX0_append_37 : decode cX0_append 37 = .ok (.iastore, 1) := by decide +kernel
theorem dX0_append_38 : decode cX0_append 38 = .ok (.aload 5, 2) := by decide +kernel
theorem dX0_append_40 : decode cX0_append 40 = .ok (.iconst 3, 1) := by decide +kernel
theorem dX0_append_41 : decode cX0_append 41 = .ok (.iload 4, 2) := by decide +kernel
theorem dX0_append_43 : decode cX0_append 43 = .ok (.iastore, 1) := by decide +kernel
theorem dX0_append_44 : decode cX0_append 44 = .ok (.iconst 0, 1) := by decide +kernel
theorem dX0_append_45 : decode cX0_append 45 = .ok (.istore 6, 2) := by decide +kernel
theorem dX0_append_47 : decode cX0_append 47 = .ok (.iload 6, 2) := by decide +kernel
theorem dX0_append_49 : decode cX0_append 49 = .ok (.iconst 4, 1) := by decide +kernel
theorem dX0_append_50 : decode cX0_append 50 = .ok (.if_icmp .ge 24, 3) := by decide +kernel
theorem dX0_append_53 : decode cX0_append 53 = .ok (.aload_n 0, 1) := by decide +kernel
theorem dX0_append_54 : decode cX0_append 54 = .ok (.getfield 18, 3) := by decide +kernel
theorem dX0_append_57 : decode cX0_append 57 = .ok (.iload 6, 2) := by decide +kernel
theorem dX0_append_59 : decode cX0_append 59 = .ok (.aaload, 1) := by decide +kernel
theorem dX0_append_60 : decode cX0_append 60 = .ok (.aload 5, 2) := by decide +kernel
theorem dX0_append_62 : decode cX0_append 62 = .ok (.iload 6, 2) := by decide +kernel
theorem dX0_append_64 : decode cX0_append 64 = .ok (.iaload, 1) := by decide +kernel
theorem dX0_append_65 : decode cX0_append 65 = .ok (.invokevirtual 31, 3) := by decide +kernel
theorem dX0_append_68 : decode cX0_append 68 = .ok (.iinc 6 1, 3) := by decide +kernel
theorem dX0_append_71 : decode cX0_append 71 = .ok (.goto (-24), 3) := by decide +kernel
theorem dX0_append_74 : decode cX0_append 74 = .ok (.aload_n 0, 1) := by decide +kernel
theorem dX0_append_75 : decode cX0_append 75 = .ok (.dup, 1) := by decide +kernel
theorem dX0_append_76 : decode cX0_append 76 = .ok (.getfield 27, 3) := by decide +kernel
theorem dX0_append_79 : decode cX0_append 79 = .ok (.iconst 1, 1) := by decide +kernel
theorem dX0_append_80 : decode cX0_append 80 = .ok (.iadd, 1) := by decide +kernel
theorem dX0_append_81 : decode cX0_append 81 = .ok (.putfield 27, 3) := by decide +kernel
theorem dX0_append_84 : decode cX0_append 84 = .ok (.aload_n 0, 1) := by decide +kernel
theorem dX0_append_85 : decode cX0_append 85 = .ok (.getfield 27, 3) := by decide +kernel
theorem dX0_append_88 : decode cX0_append 88 = .ok (.ireturn, 1) := by decide +kernel
theorem dX0_remove_0 : decode cX0_remove 0 = .ok (.iconst 0, 1) := by decide +kernel
theorem dX0_remove_1 : decode cX0_remove 1 = .ok (.istore_n 2, 1) := by decide +kernel
theorem dX0_remove_2 : decode cX0_remove 2 = .ok (.iload_n 2, 1) := by decide +kernel
theorem dX0_remove_3 : decode cX0_remove 3 = .ok (.iconst 4, 1) := by decide +kernel
theorem dX0_remove_4 : decode cX0_remove 4 = .ok (.if_icmp .ge 26, 3) := by decide +kernel
theorem dX0_remove_7 : decode cX0_remove 7 = .ok (.aload_n 0, 1) := by decide +kernel
theorem dX0_remove_8 : decode cX0_remove 8 = .ok (.getfield 18, 3) := by decide +kernel
theorem dX0_remove_11 : decode cX0_remove 11 = .ok (.iload_n 2, 1) := by decide +kernel
theorem dX0_remove_12 : decode cX0_remove 12 = .ok (.aaload, 1) := by decide +kernel
theorem dX0_remove_13 : decode cX0_remove 13 = .ok (.aload_n 0, 1) := by decide +kernel
theorem dX0_remove_14 : decode cX0_remove 14 = .ok (.getfield 11, 3) := by decide +kernel
theorem dX0_remove_17 : decode cX0_remove 17 = .ok (.iload_n 1, 1) := by decide +kernel
theorem dX0_remove_18 : decode cX0_remove 18 = .ok (.aaload, 1) := by decide +kernel
theorem dX0_remove_19 : decode cX0_remove 19 = .ok (.iload_n 2, 1) := by decide +kernel
theorem dX0_remove_20 : decode cX0_remove 20 = .ok (.iaload, 1) := by decide +kernel
theorem dX0_remove_21 : decode cX0_remove 21 = .ok (.invokevirtual 35, 3) := by decide +kernel
theorem dX0_remove_24 : decode cX0_remove 24 = .ok (.iinc 2 1, 3) := by decide +kernel
theorem dX0_remove_27 : decode cX0_remove 27 = .ok (.goto (-25), 3) := by decide +kernel
theorem dX0_remove_30 : decode cX0_remove 30 = .ok (.iload_n 1, 1) := by decide +kernel
theorem dX0_remove_31 : decode cX0_remove 31 = .ok (.iconst 1, 1) := by decide +kernel
theorem dX0_remove_32 : decode cX0_remove 32 = .ok (.iadd, 1) := by decide +kernel
theorem dX0_remove_33 : decode cX0_remove 33 = .ok (.istore_n 2, 1) := by decide +kernel
theorem dX0_remove_34 : decode cX0_remove 34 = .ok (.iload_n 2, 1) := by decide +kernel
theorem dX0_remove_35 : decode cX0_remove 35 = .ok (.aload_n 0, 1) := by decide +kernel
theorem dX0_remove_36 : decode cX0_remove 36 = .ok (.getfield 27, 3) := by decide +kernel
theorem dX0_remove_39 : decode cX0_remove 39 = .ok (.if_icmp .ge 29, 3) := by decide +kernel
theorem dX0_remove_42 : decode cX0_remove 42 = .ok (.aload_n 0, 1) := by decide +kernel
theorem dX0_remove_43 : decode cX0_remove 43 = .ok (.getfield 11, 3) := by decide +kernel
theorem dX0_remove_46 : decode cX0_remove 46 = .ok (.iload_n 2, 1) := by decide +kernel
theorem dX0_remove_47 : decode cX0_remove 47 = .ok (.aaload, 1) := by decide +kernel
theorem dX0_remove_48 : decode cX0_remove 48 = .ok (.iconst 0, 1) := by decide +kernel
theorem dX0_remove_49 : decode cX0_remove 49 = .ok (.aload_n 0, 1) := by decide +kernel
theorem dX0_remove_50 : decode cX0_remove 50 = .ok (.getfield 11, 3) := by decide +kernel
theorem dX0_remove_53 : decode cX0_remove 53 = .ok (.iload_n 2, 1) := by decide +kernel
theorem dX0_remove_54 : decode cX0_remove 54 = .ok (.iconst 1, 1) := by decide +kernel
theorem dX0_remove_55 : decode cX0_remove 55 = .ok (.isub, 1) := by decide +kernel
theorem dX0_remove_56 : decode cX0_remove 56 = .ok (.aaload, 1) := by decide +kernel
theorem dX0_remove_57 : decode cX0_remove 57 = .ok (.iconst 0, 1) := by decide +kernel
theorem dX0_remove_58 : decode cX0_remove 58 = .ok (.iconst 4, 1) := by decide +kernel
theorem dX0_remove_59 : decode cX0_remove 59 = .ok (.invokestatic 38, 3) := by decide +kernel
theorem dX0_remove_62 : decode cX0_remove 62 = .ok (.iinc 2 1, 3) := by decide +kernel
theorem dX0_remove_65 : decode cX0_remove 65 = .ok (.goto (-31), 3) := by decide +kernel
theorem dX0_remove_68 : decode cX0_remove 68 = .ok (.aload_n 0, 1) := by decide +kernel
theorem dX0_remove_69 : decode cX0_remove 69 = .ok (.dup, 1) := by decide +kernel
theorem dX0_remove_70 : decode cX0_remove 70 = .ok (.getfield 27, 3) := by decide +kernel
theorem dX0_remove_73 : decode cX0_remove 73 = .ok (.iconst 1, 1) := by decide +kernel
theorem dX0_remove_74 : decode cX0_remove 74 = .ok (.isub, 1) := by decide +kernel
theorem dX0_remove_75 : decode cX0_remove 75 = .ok (.putfield 27, 3) := by decide +kernel
theorem dX0_remove_78 : decode cX0_remove 78 = .ok (.aload_n 0, 1) := by decide +kernel
theorem dX0_remove_79 : decode cX0_remove 79 = .ok (.getfield 27, 3) := by decide +kernel
theorem dX0_remove_82 : decode cX0_remove 82 = .ok (.ireturn, 1) := by decide +kernel
theorem dX0_makeFresh_0 : decode cX0_makeFresh 0 = .ok (.aload_n 0, 1) := by decide +kernel
theorem dX0_makeFresh_1 : decode cX0_makeFresh 1 = .ok (.getfield 23, 3) := by decide +kernel
theorem dX0_makeFresh_4 : decode cX0_makeFresh 4 = .ok (.invokevirtual 44, 3) := by decide +kernel
theorem dX0_makeFresh_7 : decode cX0_makeFresh 7 = .ok (.iconst 0, 1) := by decide +kernel
theorem dX0_makeFresh_8 : decode cX0_makeFresh 8 = .ok (.istore_n 2, 1) := by decide +kernel
theorem dX0_makeFresh_9 : decode cX0_makeFresh 9 = .ok (.iload_n 2, 1) := by decide +kernel
theorem dX0_makeFresh_10 : decode cX0_makeFresh 10 = .ok (.aload_n 0, 1) := by decide +kernel
theorem dX0_makeFresh_11 : decode cX0_makeFresh 11 = .ok (.getfield 27, 3) := by decide +kernel
theorem dX0_makeFresh_14 : decode cX0_makeFresh 14 = .ok (.if_icmp .ge 24, 3) := by decide +kernel
theorem dX0_makeFresh_17 : decode cX0_makeFresh 17 = .ok (.aload_n 0, 1) := by decide +kernel
theorem dX0_makeFresh_18 : decode cX0_makeFresh 18 = .ok (.getfield 23, 3) := by decide +kernel
theorem dX0_makeFresh_21 : decode cX0_makeFresh 21 = .ok (.aload_n 0, 1) := by decide +kernel
theorem dX0_makeFresh_22 : decode cX0_makeFresh 22 = .ok (.getfield 11, 3) := by decide +kernel
theorem dX0_makeFresh_25 : decode cX0_makeFresh 25 = .ok (.iload_n 2, 1) := by decide +kernel
theorem dX0_makeFresh_26 : decode cX0_makeFresh 26 = .ok (.aaload, 1) := by decide +kernel
theorem dX0_makeFresh_27 : decode cX0_makeFresh 27 = .ok (.iload_n 1, 1) := by decide +kernel
theorem dX0_makeFresh_28 : decode cX0_makeFresh 28 = .ok (.iaload, 1) := by decide +kernel
theorem dX0_makeFresh_29 : decode cX0_makeFresh 29 = .ok (.invokevirtual 31, 3) := by decide +kernel
theorem dX0_makeFresh_32 : decode cX0_makeFresh 32 = .ok (.iinc 2 1, 3) := by decide +kernel
theorem dX0_makeFresh_35 : decode cX0_makeFresh 35 = .ok (.goto (-26), 3) := by decide +kernel
theorem dX0_makeFresh_38 : decode cX0_makeFresh 38 = .ok (.return_, 1) := by decide +kernel
theorem dX0_isStale_0 : decode cX0_isStale 0 = .ok (.aload_n 0, 1) := by decide +kernel
theorem dX0_isStale_1 : decode cX0_isStale 1 = .ok (.iload_n 1, 1) := by decide +kernel
theorem dX0_isStale_2 : decode cX0_isStale 2 = .ok (.invokevirtual 47, 3) := by decide +kernel
theorem dX0_isStale_5 : decode cX0_isStale 5 = .ok (.aload_n 0, 1) := by decide +kernel
theorem dX0_isStale_6 : decode cX0_isStale 6 = .ok (.getfield 18, 3) := by decide +kernel
theorem dX0_isStale_9 : decode cX0_isStale 9 = .ok (.iload_n 1, 1) := by decide +kernel
theorem dX0_isStale_10 : decode cX0_isStale 10 = .ok (.aaload, 1) := by decide +kernel
theorem dX0_isStale_11 : decode cX0_isStale 11 = .ok (.aload_n 0, 1) := by decide +kernel
theorem dX0_isStale_12 : decode cX0_isStale 12 = .ok (.getfield 23, 3) := by decide +kernel
theorem dX0_isStale_15 : decode cX0_isStale 15 = .ok (.invokevirtual 50, 3) := by decide +kernel
theorem dX0_isStale_18 : decode cX0_isStale 18 = .ok (.ireturn, 1) := by decide +kernel
theorem dX0_renew_0 : decode cX0_renew 0 = .ok (.iconst 0, 1) := by decide +kernel
theorem dX0_renew_1 : decode cX0_renew 1 = .ok (.istore_n 1, 1) := by decide +kernel
theorem dX0_renew_2 : decode cX0_renew 2 = .ok (.iconst 0, 1) := by decide +kernel
theorem dX0_renew_3 : decode cX0_renew 3 = .ok (.istore_n 2, 1) := by decide +kernel
theorem dX0_renew_4 : decode cX0_renew 4 = .ok (.iload_n 2, 1) := by decide +kernel
theorem dX0_renew_5 : decode cX0_renew 5 = .ok (.iconst 4, 1) := by decide +kernel
theorem dX0_renew_6 : decode cX0_renew 6 = .ok (.if_icmp .ge 33, 3) := by decide +kernel
theorem dX0_renew_9 : decode cX0_renew 9 = .ok (.aload_n 0, 1) := by decide +kernel
theorem dX0_renew_10 : decode cX0_renew 10 = .ok (.iload_n 2, 1) := by decide +kernel
theorem dX0_renew_11 : decode cX0_renew 11 = .ok (.invokevirtual 54, 3) := by decide +kernel
theorem dX0_renew_14 : decode cX0_renew 14 = .ok (.ifCond .eq 6, 3) := by decide +kernel
theorem dX0_renew_17 : decode cX0_renew 17 = .ok (.iinc 1 1, 3) := by decide +kernel
theorem dX0_renew_20 : decode cX0_renew 20 = .ok (.aload_n 0, 1) := by decide +kernel
theorem dX0_renew_21 : decode cX0_renew 21 = .ok (.getfield 18, 3) := by decide +kernel
theorem dX0_renew_24 : decode cX0_renew 24 = .ok (.iload_n 2, 1) := by decide +kernel
theorem dX0_renew_25 : decode cX0_renew 25 = .ok (.aaload, 1) := by decide +kernel
theorem dX0_renew_26 : decode cX0_renew 26 = .ok (.aload_n 0, 1) := by decide +kernel
theorem dX0_renew_27 : decode cX0_renew 27 = .ok (.getfield 23, 3) := by decide +kernel
theorem dX0_renew_30 : decode cX0_renew 30 = .ok (.invokevirtual 58, 3) := by decide +kernel
theorem dX0_renew_33 : decode cX0_renew 33 = .ok (.iinc 2 1, 3) := by decide +kernel
theorem dX0_renew_36 : decode cX0_renew 36 = .ok (.goto (-32), 3) := by decide +kernel
theorem dX0_renew_39 : decode cX0_renew 39 = .ok (.iload_n 1, 1) := by decide +kernel
theorem dX0_renew_40 : decode cX0_renew 40 = .ok (.ireturn, 1) := by decide +kernel
theorem dX0_copyFrom_0 : decode cX0_copyFrom 0 = .ok (.aload_n 0, 1) := by decide +kernel
theorem dX0_copyFrom_1 : decode cX0_copyFrom 1 = .ok (.aload_n 1, 1) := by decide +kernel
theorem dX0_copyFrom_2 : decode cX0_copyFrom 2 = .ok (.getfield 27, 3) := by decide +kernel
theorem dX0_copyFrom_5 : decode cX0_copyFrom 5 = .ok (.putfield 27, 3) := by decide +kernel
theorem dX0_copyFrom_8 : decode cX0_copyFrom 8 = .ok (.iconst 0, 1) := by decide +kernel
theorem dX0_copyFrom_9 : decode cX0_copyFrom 9 = .ok (.istore_n 2, 1) := by decide +kernel
theorem dX0_copyFrom_10 : decode cX0_copyFrom 10 = .ok (.iload_n 2, 1) := by decide +kernel
theorem dX0_copyFrom_11 : decode cX0_copyFrom 11 = .ok (.bipush 8, 2) := by decide +kernel
theorem dX0_copyFrom_13 : decode cX0_copyFrom 13 = .ok (.if_icmp .ge 27, 3) := by decide +kernel
theorem dX0_copyFrom_16 : decode cX0_copyFrom 16 = .ok (.aload_n 1, 1) := by decide +kernel
theorem dX0_copyFrom_17 : decode cX0_copyFrom 17 = .ok (.getfield 11, 3) := by decide +kernel
theorem dX0_copyFrom_20 : decode cX0_copyFrom 20 = .ok (.iload_n 2, 1) := by decide +kernel
theorem dX0_copyFrom_21 : decode cX0_copyFrom 21 = .ok (.aaload, 1) := by decide +kernel
theorem dX0_copyFrom_22 : decode cX0_copyFrom 22 = .ok (.iconst 0, 1) := by decide +kernel
theorem dX0_copyFrom_23 : decode cX0_copyFrom 23 = .ok (.aload_n 0, 1) := by decide +kernel
theorem dX0_copyFrom_24 : decode cX0_copyFrom 24 = .ok (.getfield 11, 3) := by decide +kernel
theorem dX0_copyFrom_27 : decode cX0_copyFrom 27 = .ok (.iload_n 2, 1) := by decide +kernel
theorem dX0_copyFrom_28 : decode cX0_copyFrom 28 = .ok (.aaload, 1) := by decide +kernel
theorem dX0_copyFrom_29 : decode cX0_copyFrom 29 = .ok (.iconst 0, 1) := by decide +kernel
theorem dX0_copyFrom_30 : decode cX0_copyFrom 30 = .ok (.iconst 4, 1) := by decide +kernel
theorem dX0_copyFrom_31 : decode cX0_copyFrom 31 = .ok (.invokestatic 38, 3) := by decide +kernel
theorem dX0_copyFrom_34 : decode cX0_copyFrom 34 = .ok (.iinc 2 1, 3) := by decide +kernel
theorem dX0_copyFrom_37 : decode cX0_copyFrom 37 = .ok (.goto (-27), 3) := by decide +kernel
theorem dX0_copyFrom_40 : decode cX0_copyFrom 40 = .ok (.iconst 0, 1) := by decide +kernel
theorem dX0_copyFrom_41 : decode cX0_copyFrom 41 = .ok (.istore_n 2, 1) := by decide +kernel
theorem dX0_copyFrom_42 : decode cX0_copyFrom 42 = .ok (.iload_n 2, 1) := by decide +kernel
theorem dX0_copyFrom_43 : decode cX0_copyFrom 43 = .ok (.iconst 4, 1) := by decide +kernel
theorem dX0_copyFrom_44 : decode cX0_copyFrom 44 = .ok (.if_icmp .ge 24, 3) := by decide +kernel
theorem dX0_copyFrom_47 : decode cX0_copyFrom 47 = .ok (.aload_n 0, 1) := by decide +kernel
theorem dX0_copyFrom_48 : decode cX0_copyFrom 48 = .ok (.getfield 18, 3) := by decide +kernel
theorem dX0_copyFrom_51 : decode cX0_copyFrom 51 = .ok (.iload_n 2, 1) := by decide +kernel
theorem dX0_copyFrom_52 : decode cX0_copyFrom 52 = .ok (.aaload, 1) := by decide +kernel
theorem dX0_copyFrom_53 : decode cX0_copyFrom 53 = .ok (.aload_n 1, 1) := by decide +kernel
theorem dX0_copyFrom_54 : decode cX0_copyFrom 54 = .ok (.getfield 18, 3) := by decide +kernel
theorem dX0_copyFrom_57 : decode cX0_copyFrom 57 = .ok (.iload_n 2, 1) := by decide +kernel
theorem dX0_copyFrom_58 : decode cX0_copyFrom 58 = .ok (.aaload, 1) := by decide +kernel
theorem dX0_copyFrom_59 : decode cX0_copyFrom 59 = .ok (.invokevirtual 58, 3) := by decide +kernel
theorem dX0_copyFrom_62 : decode cX0_copyFrom 62 = .ok (.iinc 2 1, 3) := by decide +kernel
theorem dX0_copyFrom_65 : decode cX0_copyFrom 65 = .ok (.goto (-23), 3) := by decide +kernel
theorem dX0_copyFrom_68 : decode cX0_copyFrom 68 = .ok (.return_, 1) := by decide +kernel
theorem dX1_init_0 : decode cX1_init 0 = .ok (.aload_n 0, 1) := by decide +kernel
theorem dX1_init_1 : decode cX1_init 1 = .ok (.invokespecial 3, 3) := by decide +kernel
theorem dX1_init_4 : decode cX1_init 4 = .ok (.aload_n 0, 1) := by decide +kernel
theorem dX1_init_5 : decode cX1_init 5 = .ok (.bipush 60, 2) := by decide +kernel
theorem dX1_init_7 : decode cX1_init 7 = .ok (.newarray .int, 2) := by decide +kernel
theorem dX1_init_9 : decode cX1_init 9 = .ok (.putfield 9, 3) := by decide +kernel
theorem dX1_init_12 : decode cX1_init 12 = .ok (.aload_n 0, 1) := by decide +kernel
theorem dX1_init_13 : decode cX1_init 13 = .ok (.bipush 60, 2) := by decide +kernel
theorem dX1_init_15 : decode cX1_init 15 = .ok (.newarray .int, 2) := by decide +kernel
theorem dX1_init_17 : decode cX1_init 17 = .ok (.putfield 15, 3) := by decide +kernel
theorem dX1_init_20 : decode cX1_init 20 = .ok (.aload_n 0, 1) := by decide +kernel
theorem dX1_init_21 : decode cX1_init 21 = .ok (.bipush 60, 2) := by decide +kernel
theorem dX1_init_23 : decode cX1_init 23 = .ok (.newarray .int, 2) := by decide +kernel
theorem dX1_init_25 : decode cX1_init 25 = .ok (.putfield 18, 3) := by decide +kernel
theorem dX1_init_28 : decode cX1_init 28 = .ok (.aload_n 0, 1) := by decide +kernel
theorem dX1_init_29 : decode cX1_init 29 = .ok (.bipush 60, 2) := by decide +kernel
theorem dX1_init_31 : decode cX1_init 31 = .ok (.newarray .int, 2) := by decide +kernel
theorem dX1_init_33 : decode cX1_init 33 = .ok (.putfield 21, 3) := by decide +kernel
theorem dX1_init_36 : decode cX1_init 36 = .ok (.aload_n 0, 1) := by decide +kernel
theorem dX1_init_37 : decode cX1_init 37 = .ok (.bipush 60, 2) := by decide +kernel
theorem dX1_init_39 : decode cX1_init 39 = .ok (.newarray .int, 2) := by decide +kernel
theorem dX1_init_41 : decode cX1_init 41 = .ok (.putfield 24, 3) := by decide +kernel
theorem dX1_init_44 : decode cX1_init 44 = .ok (.aload_n 0, 1) := by decide +kernel
theorem dX1_init_45 : decode cX1_init 45 = .ok (.bipush 121, 2) := by decide +kernel
theorem dX1_init_47 : decode cX1_init 47 = .ok (.newarray .int, 2) := by decide +kernel
theorem dX1_init_49 : decode cX1_init 49 = .ok (.putfield 27, 3) := by decide +kernel
theorem dX1_init_52 : decode cX1_init 52 = .ok (.aload_n 0, 1) := by decide +kernel
theorem dX1_init_53 : decode cX1_init 53 = .ok (.invokevirtual 30, 3) := by decide +kernel
theorem dX1_init_56 : decode cX1_init 56 = .ok (.return_, 1) := by decide +kernel
theorem dX1_clear_0 : decode cX1_clear 0 = .ok (.aload_n 0, 1) := by decide +kernel
theorem dX1_clear_1 : decode cX1_clear 1 = .ok (.iconst 0, 1) := by decide +kernel
theorem dX1_clear_2 : decode cX1_clear 2 = .ok (.putfield 33, 3) := by decide +kernel
theorem dX1_clear_5 : decode cX1_clear 5 = .ok (.aload_n 0, 1) := by decide +kernel
theorem dX1_clear_6 : decode cX1_clear 6 = .ok (.iconst 0, 1) := by decide +kernel
theorem dX1_clear_7 : decode cX1_clear 7 = .ok (.putfield 37, 3) := by decide +kernel
theorem dX1_clear_10 : decode cX1_clear 10 = .ok (.aload_n 0, 1) := by decide +kernel
theorem dX1_clear_11 : decode cX1_clear 11 = .ok (.ldc 40, 2) := by decide +kernel
theorem dX1_clear_13 : decode cX1_clear 13 = .ok (.putfield 41, 3) := by decide +kernel
theorem dX1_clear_16 : decode cX1_clear 16 = .ok (.aload_n 0, 1) := by decide +kernel
theorem dX1_clear_17 : decode cX1_clear 17 = .ok (.iconst 1, 1) := by decide +kernel
theorem dX1_clear_18 : decode cX1_clear 18 = .ok (.invokevirtual 44, 3) := by decide +kernel
theorem dX1_clear_21 : decode cX1_clear 21 = .ok (.return_, 1) := by decide +kernel
theorem dX1_append_0 : decode cX1_append 0 = .ok (.aload_n 0, 1) := by decide +kernel
theorem dX1_append_1 : decode cX1_append 1 = .ok (.getfield 33, 3) := by decide +kernel
theorem dX1_append_4 : decode cX1_append 4 = .ok (.bipush 60, 2) := by decide +kernel
theorem dX1_append_6 : decode cX1_append 6 = .ok (.if_icmp .lt 6, 3) := by decide +kernel
theorem dX1_append_9 : decode cX1_append 9 = .ok (.bipush (-4), 2) := by decide +kernel
theorem dX1_append_11 : decode cX1_append 11 = .ok (.ireturn, 1) := by decide +kernel
theorem dX1_append_12 : decode cX1_append 12 = .ok (.aload_n 0, 1) := by decide +kernel
theorem dX1_append_13 : decode cX1_append 13 = .ok (.getfield 9, 3) := by decide +kernel
theorem dX1_append_16 : decode cX1_append 16 = .ok (.aload_n 0, 1) := by decide +kernel
theorem dX1_append_17 : decode cX1_append 17 = .ok (.getfield 33, 3) := by decide +kernel
theorem dX1_append_20 : decode cX1_append 20 = .ok (.iload_n 1, 1) := by decide +kernel
theorem dX1_append_21 : decode cX1_append 21 = .ok (.iastore, 1) := by decide +kernel
theorem dX1_append_22 : decode cX1_append 22 = .ok (.aload_n 0, 1) := by decide +kernel
theorem dX1_append_23 : decode cX1_append 23 = .ok (.getfield 41, 3) := by decide +kernel
theorem dX1_append_26 : decode cX1_append 26 = .ok (.ldc 40, 2) := by decide +kernel
theorem dX1_append_28 : decode cX1_append 28 = .ok (.if_icmp .ne 19, 3) := by decide +kernel
theorem dX1_append_31 : decode cX1_append 31 = .ok (.aload_n 0, 1) := by decide +kernel
theorem dX1_append_32 : decode cX1_append 32 = .ok (.iload_n 1, 1) := by decide +kernel
theorem dX1_append_33 : decode cX1_append 33 = .ok (.invokevirtual 48, 3) := by decide +kernel
theorem dX1_append_36 : decode cX1_append 36 = .ok (.ifCond .ne 11, 3) := by decide +kernel
theorem dX1_append_39 : decode cX1_append 39 = .ok (.aload_n 0, 1) := by decide +kernel
theorem dX1_append_40 : decode cX1_append 40 = .ok (.aload_n 0, 1) := by decide +kernel
theorem dX1_append_41 : decode cX1_append 41 = .ok (.getfield 33, 3) := by decide +kernel
theorem dX1_append_44 : decode cX1_append 44 = .ok (.putfield 41, 3) := by decide +kernel
theorem dX1_append_47 : decode cX1_append 47 = .ok (.aload_n 0, 1) := by decide +kernel
theorem dX1_append_48 : decode cX1_append 48 = .ok (.dup, 1) := by decide +kernel
theorem dX1_append_49 : decode cX1_append 49 = .ok (.getfield 33, 3) := by decide +kernel
theorem dX1_append_52 : decode cX1_append 52 = .ok (.iconst 1, 1) := by decide +kernel
theorem dX1_append_53 : decode cX1_append 53 = .ok (.iadd, 1) := by decide +kernel
theorem dX1_append_54 : decode cX1_append 54 = .ok (.putfield 33, 3) := by decide +kernel
theorem dX1_append_57 : decode cX1_append 57 = .ok (.aload_n 0, 1) := by decide +kernel
theorem dX1_append_58 : decode cX1_append 58 = .ok (.invokevirtual 52, 3) := by decide +kernel
theorem dX1_append_61 : decode cX1_append 61 = .ok (.ifCond .ne 7, 3) := by decide +kernel
theorem dX1_append_64 : decode cX1_append 64 = .ok (.aload_n 0, 1) := by decide +kernel
theorem dX1_append_65 : decode cX1_append 65 = .ok (.invokevirtual 56, 3) := by decide +kernel
theorem dX1_append_68 : decode cX1_append 68 = .ok (.aload_n 0, 1) := by decide +kernel
theorem dX1_append_69 : decode cX1_append 69 = .ok (.getfield 33, 3) := by decide +kernel
theorem dX1_append_72 : decode cX1_append 72 = .ok (.ireturn, 1) := by decide +kernel
theorem dX1_faultPlace_0 : decode cX1_faultPlace 0 = .ok (.aload_n 0, 1) := by decide +kernel
theorem dX1_faultPlace_1 : decode cX1_faultPlace 1 = .ok (.getfield 41, 3) := by decide +kernel
theorem dX1_faultPlace_4 : decode cX1_faultPlace 4 = .ok (.ldc 40, 2) := by decide +kernel
theorem dX1_faultPlace_6 : decode cX1_faultPlace 6 = .ok (.if_icmp .eq 8, 3) := by decide +kernel
theorem dX1_faultPlace_9 : decode cX1_faultPlace 9 = .ok (.aload_n 0, 1) := by decide +kernel
theorem dX1_faultPlace_10 : decode cX1_faultPlace 10 = .ok (.getfield 41, 3) := by decide +kernel
theorem dX1_faultPlace_13 : decode cX1_faultPlace 13 = .ok (.ireturn, 1) := by decide +kernel
theorem dX1_faultPlace_14 : decode cX1_faultPlace 14 = .ok (.aload_n 0, 1) := by decide +kernel
theorem dX1_faultPlace_15 : decode cX1_faultPlace 15 = .ok (.getfield 37, 3) := by decide +kernel
theorem dX1_faultPlace_18 : decode cX1_faultPlace 18 = .ok (.ifCond .le 10, 3) := by decide +kernel
theorem dX1_faultPlace_21 : decode cX1_faultPlace 21 = .ok (.aload_n 0, 1) := by decide +kernel
theorem dX1_faultPlace_22 : decode cX1_faultPlace 22 = .ok (.getfield 33, 3) := by decide +kernel
theorem dX1_faultPlace_25 : decode cX1_faultPlace 25 = .ok (.goto 5, 3) := by decide +kernel
theorem dX1_faultPlace_28 : decode cX1_faultPlace 28 = .ok (.ldc 40, 2) := by decide +kernel
theorem dX1_faultPlace_30 : decode cX1_faultPlace 30 = .ok (.ireturn, 1) := by decide +kernel
theorem dX1_isFaulty_0 : decode cX1_isFaulty 0 = .ok (.aload_n 0, 1) := by decide +kernel
theorem dX1_isFaulty_1 : decode cX1_isFaulty 1 = .ok (.getfield 41, 3) := by decide +kernel
theorem dX1_isFaulty_4 : decode cX1_isFaulty 4 = .ok (.ldc 40, 2) := by decide +kernel
theorem dX1_isFaulty_6 : decode cX1_isFaulty 6 = .ok (.if_icmp .ne 10, 3) := by decide +kernel
theorem dX1_isFaulty_9 : decode cX1_isFaulty 9 = .ok (.aload_n 0, 1) := by decide +kernel
theorem dX1_isFaulty_10 : decode cX1_isFaulty 10 = .ok (.getfield 37, 3) := by decide +kernel
theorem dX1_isFaulty_13 : decode cX1_isFaulty 13 = .ok (.ifCond .le 7, 3) := by decide +kernel
theorem dX1_isFaulty_16 : decode cX1_isFaulty 16 = .ok (.iconst 1, 1) := by decide +kernel
theorem dX1_isFaulty_17 : decode cX1_isFaulty 17 = .ok (.goto 4, 3) := by decide +kernel
theorem dX1_isFaulty_20 : decode cX1_isFaulty 20 = .ok (.iconst 0, 1) := by decide +kernel
theorem dX1_isFaulty_21 : decode cX1_isFaulty 21 = .ok (.ireturn, 1) := by decide +kernel
theorem dX1_await_0 : decode cX1_await 0 = .ok (.aload_n 0, 1) := by decide +kernel
theorem dX1_await_1 : decode cX1_await 1 = .ok (.getfield 37, 3) := by decide +kernel
theorem dX1_await_4 : decode cX1_await 4 = .ok (.aload_n 0, 1) := by decide +kernel
theorem dX1_await_5 : decode cX1_await 5 = .ok (.getfield 27, 3) := by decide +kernel
theorem dX1_await_8 : decode cX1_await 8 = .ok (.arraylength, 1) := by decide +kernel
theorem dX1_await_9 : decode cX1_await 9 = .ok (.if_icmp .ge 23, 3) := by decide +kernel
theorem dX1_await_12 : decode cX1_await 12 = .ok (.aload_n 0, 1) := by decide +kernel
theorem dX1_await_13 : decode cX1_await 13 = .ok (.getfield 27, 3) := by decide +kernel
theorem dX1_await_16 : decode cX1_await 16 = .ok (.aload_n 0, 1) := by decide +kernel
theorem dX1_await_17 : decode cX1_await 17 = .ok (.getfield 37, 3) := by decide +kernel
theorem dX1_await_20 : decode cX1_await 20 = .ok (.iload_n 1, 1) := by decide +kernel
theorem dX1_await_21 : decode cX1_await 21 = .ok (.iastore, 1) := by decide +kernel
theorem dX1_await_22 : decode cX1_await 22 = .ok (.aload_n 0, 1) := by decide +kernel
theorem dX1_await_23 : decode cX1_await 23 = .ok (.dup, 1) := by decide +kernel
theorem dX1_await_24 : decode cX1_await 24 = .ok (.getfield 37, 3) := by decide +kernel
theorem dX1_await_27 : decode cX1_await 27 = .ok (.iconst 1, 1) := by decide +kernel
theorem dX1_await_28 : decode cX1_await 28 = .ok (.iadd, 1) := by decide +kernel
theorem dX1_await_29 : decode cX1_await 29 = .ok (.putfield 37, 3) := by decide +kernel
theorem dX1_await_32 : decode cX1_await 32 = .ok (.return_, 1) := by decide +kernel
theorem dX1_canStand_0 : decode cX1_canStand 0 = .ok (.aload_n 0, 1) := by decide +kernel
theorem dX1_canStand_1 : decode cX1_canStand 1 = .ok (.getfield 37, 3) := by decide +kernel
theorem dX1_canStand_4 : decode cX1_canStand 4 = .ok (.ifCond .ne 5, 3) := by decide +kernel
theorem dX1_canStand_7 : decode cX1_canStand 7 = .ok (.iconst 0, 1) := by decide +kernel
theorem dX1_canStand_8 : decode cX1_canStand 8 = .ok (.ireturn, 1) := by decide +kernel
theorem dX1_canStand_9 : decode cX1_canStand 9 = .ok (.aload_n 0, 1) := by decide +kernel
theorem dX1_canStand_10 : decode cX1_canStand 10 = .ok (.dup, 1) := by decide +kernel
theorem dX1_canStand_11 : decode cX1_canStand 11 = .ok (.getfield 37, 3) := by decide +kernel
theorem dX1_canStand_14 : decode cX1_canStand 14 = .ok (.iconst 1, 1) := by decide +kernel
theorem dX1_canStand_15 : decode cX1_canStand 15 = .ok (.isub, 1) := by decide +kernel
theorem dX1_canStand_16 : decode cX1_canStand 16 = .ok (.putfield 37, 3) := by decide +kernel
theorem dX1_canStand_19 : decode cX1_canStand 19 = .ok (.aload_n 0, 1) := by decide +kernel
theorem dX1_canStand_20 : decode cX1_canStand 20 = .ok (.getfield 27, 3) := by decide +kernel
theorem dX1_canStand_23 : decode cX1_canStand 23 = .ok (.aload_n 0, 1) := by decide +kernel
theorem dX1_canStand_24 : decode cX1_canStand 24 = .ok (.getfield 37, 3) := by decide +kernel
theorem dX1_canStand_27 : decode cX1_canStand 27 = .ok (.iaload, 1) := by decide +kernel
theorem dX1_canStand_28 : decode cX1_canStand 28 = .ok (.istore_n 2, 1) := by decide +kernel
theorem dX1_canStand_29 : decode cX1_canStand 29 = .ok (.aload_n 0, 1) := by decide +kernel
theorem dX1_canStand_30 : decode cX1_canStand 30 = .ok (.getfield 15, 3) := by decide +kernel
theorem dX1_canStand_33 : decode cX1_canStand 33 = .ok (.aload_n 0, 1) := by decide +kernel
theorem dX1_canStand_34 : decode cX1_canStand 34 = .ok (.getfield 33, 3) := by decide +kernel
theorem dX1_canStand_37 : decode cX1_canStand 37 = .ok (.iload_n 2, 1) := by decide +kernel
theorem dX1_canStand_38 : decode cX1_canStand 38 = .ok (.iastore, 1) := by decide +kernel
theorem dX1_canStand_39 : decode cX1_canStand 39 = .ok (.iload_n 2, 1) := by decide +kernel
theorem dX1_canStand_40 : decode cX1_canStand 40 = .ok (.tableswitch 54 1 4 #[32, 38, 44, 49], 32) := by decide +kernel
theorem dX1_canStand_72 : decode cX1_canStand 72 = .ok (.aload_n 0, 1) := by decide +kernel
theorem dX1_canStand_73 : decode cX1_canStand 73 = .ok (.iload_n 1, 1) := by decide +kernel
theorem dX1_canStand_74 : decode cX1_canStand 74 = .ok (.invokevirtual 59, 3) := by decide +kernel
theorem dX1_canStand_77 : decode cX1_canStand 77 = .ok (.ireturn, 1) := by decide +kernel
theorem dX1_canStand_78 : decode cX1_canStand 78 = .ok (.aload_n 0, 1) := by decide +kernel
theorem dX1_canStand_79 : decode cX1_canStand 79 = .ok (.iload_n 1, 1) := by decide +kernel
theorem dX1_canStand_80 : decode cX1_canStand 80 = .ok (.invokevirtual 62, 3) := by decide +kernel
theorem dX1_canStand_83 : decode cX1_canStand 83 = .ok (.ireturn, 1) := by decide +kernel
theorem dX1_canStand_84 : decode cX1_canStand 84 = .ok (.iload_n 1, 1) := by decide +kernel
theorem dX1_canStand_85 : decode cX1_canStand 85 = .ok (.invokestatic 65, 3) := by decide +kernel
theorem dX1_canStand_88 : decode cX1_canStand 88 = .ok (.ireturn, 1) := by decide +kernel
theorem dX1_canStand_89 : decode cX1_canStand 89 = .ok (.iload_n 1, 1) := by decide +kernel
theorem dX1_canStand_90 : decode cX1_canStand 90 = .ok (.invokestatic 68, 3) := by decide +kernel
theorem dX1_canStand_93 : decode cX1_canStand 93 = .ok (.ireturn, 1) := by decide +kernel
theorem dX1_canStand_94 : decode cX1_canStand 94 = .ok (.iload_n 1, 1) := by decide +kernel
theorem dX1_canStand_95 : decode cX1_canStand 95 = .ok (.invokestatic 68, 3) := by decide +kernel
theorem dX1_canStand_98 : decode cX1_canStand 98 = .ok (.ifCond .eq 13, 3) := by decide +kernel
theorem dX1_canStand_101 : decode cX1_canStand 101 = .ok (.iload_n 1, 1) := by decide +kernel
theorem dX1_canStand_102 : decode cX1_canStand 102 = .ok (.bipush 48, 2) := by decide +kernel
theorem dX1_canStand_104 : decode cX1_canStand 104 = .ok (.if_icmp .eq 7, 3) := by decide +kernel
theorem dX1_canStand_107 : decode cX1_canStand 107 = .ok (.iconst 1, 1) := by decide +kernel
theorem dX1_canStand_108 : decode cX1_canStand 108 = .ok (.goto 4, 3) := by decide +kernel
theorem dX1_canStand_111 : decode cX1_canStand 111 = .ok (.iconst 0, 1) := by decide +kernel
theorem dX1_canStand_112 : decode cX1_canStand 112 = .ok (.ireturn, 1) := by decide +kernel
theorem dX1_beginsTruth_0 : decode cX1_beginsTruth 0 = .ok (.iload_n 1, 1) := by decide +kernel
theorem dX1_beginsTruth_1 : decode cX1_beginsTruth 1 = .ok (.lookupswitch 97 #[(33, 83), (38, 71), (60, 59), (61, 59), (109, 90), (124, 71)], 59) := by decide +kernel
theorem dX1_beginsTruth_60 : decode cX1_beginsTruth 60 = .ok (.aload_n 0, 1) := by decide +kernel
theorem dX1_beginsTruth_61 : decode cX1_beginsTruth 61 = .ok (.iconst 2, 1) := by decide +kernel
theorem dX1_beginsTruth_62 : decode cX1_beginsTruth 62 = .ok (.invokevirtual 44, 3) := by decide +kernel
theorem dX1_beginsTruth_65 : decode cX1_beginsTruth 65 = .ok (.aload_n 0, 1) := by decide +kernel
theorem dX1_beginsTruth_66 : decode cX1_beginsTruth 66 = .ok (.iconst 2, 1) := by decide +kernel
theorem dX1_beginsTruth_67 : decode cX1_beginsTruth 67 = .ok (.invokevirtual 44, 3) := by decide +kernel
theorem dX1_beginsTruth_70 : decode cX1_beginsTruth 70 = .ok (.iconst 1, 1) := by decide +kernel
theorem dX1_beginsTruth_71 : decode cX1_beginsTruth 71 = .ok (.ireturn, 1) := by decide +kernel
theorem dX1_beginsTruth_72 : decode cX1_beginsTruth 72 = .ok (.aload_n 0, 1) := by decide +kernel
theorem dX1_beginsTruth_73 : decode cX1_beginsTruth 73 = .ok (.iconst 1, 1) := by decide +kernel
theorem dX1_beginsTruth_74 : decode cX1_beginsTruth 74 = .ok (.invokevirtual 44, 3) := by decide +kernel
theorem dX1_beginsTruth_77 : decode cX1_beginsTruth 77 = .ok (.aload_n 0, 1) := by decide +kernel
theorem dX1_beginsTruth_78 : decode cX1_beginsTruth 78 = .ok (.iconst 1, 1) := by decide +kernel
theorem dX1_beginsTruth_79 : decode cX1_beginsTruth 79 = .ok (.invokevirtual 44, 3) := by decide +kernel
theorem dX1_beginsTruth_82 : decode cX1_beginsTruth 82 = .ok (.iconst 1, 1) := by decide +kernel
theorem dX1_beginsTruth_83 : decode cX1_beginsTruth 83 = .ok (.ireturn, 1) := by decide +kernel
theorem dX1_beginsTruth_84 : decode cX1_beginsTruth 84 = .ok (.aload_n 0, 1) := by decide +kernel
theorem dX1_beginsTruth_85 : decode cX1_beginsTruth 85 = .ok (.iconst 1, 1) := by decide +kernel
theorem dX1_beginsTruth_86 : decode cX1_beginsTruth 86 = .ok (.invokevirtual 44, 3) := by decide +kernel
theorem dX1_beginsTruth_89 : decode cX1_beginsTruth 89 = .ok (.iconst 1, 1) := by decide +kernel
theorem dX1_beginsTruth_90 : decode cX1_beginsTruth 90 = .ok (.ireturn, 1) := by decide +kernel
theorem dX1_beginsTruth_91 : decode cX1_beginsTruth 91 = .ok (.aload_n 0, 1) := by decide +kernel
theorem dX1_beginsTruth_92 : decode cX1_beginsTruth 92 = .ok (.iconst 3, 1) := by decide +kernel
theorem dX1_beginsTruth_93 : decode cX1_beginsTruth 93 = .ok (.invokevirtual 44, 3) := by decide +kernel
theorem dX1_beginsTruth_96 : decode cX1_beginsTruth 96 = .ok (.iconst 1, 1) := by decide +kernel
theorem dX1_beginsTruth_97 : decode cX1_beginsTruth 97 = .ok (.ireturn, 1) := by decide +kernel
theorem dX1_beginsTruth_98 : decode cX1_beginsTruth 98 = .ok (.iconst 0, 1) := by decide +kernel
theorem dX1_beginsTruth_99 : decode cX1_beginsTruth 99 = .ok (.ireturn, 1) := by decide +kernel
theorem dX1_beginsTerm_0 : decode cX1_beginsTerm 0 = .ok (.iload_n 1, 1) := by decide +kernel
theorem dX1_beginsTerm_1 : decode cX1_beginsTerm 1 = .ok (.lookupswitch 115 #[(35, 67), (37, 103), (42, 91), (43, 91), (45, 91), (121, 84), (126, 84)], 67) := by decide +kernel
theorem dX1_beginsTerm_68 : decode cX1_beginsTerm 68 = .ok (.aload_n 0, 1) := by decide +kernel
theorem dX1_beginsTerm_69 : decode cX1_beginsTerm 69 = .ok (.iconst 4, 1) := by decide +kernel
theorem dX1_beginsTerm_70 : decode cX1_beginsTerm 70 = .ok (.invokevirtual 44, 3) := by decide +kernel
theorem dX1_beginsTerm_73 : decode cX1_beginsTerm 73 = .ok (.aload_n 0, 1) := by decide +kernel
theorem dX1_beginsTerm_74 : decode cX1_beginsTerm 74 = .ok (.iconst 4, 1) := by decide +kernel
theorem dX1_beginsTerm_75 : decode cX1_beginsTerm 75 = .ok (.invokevirtual 44, 3) := by decide +kernel
theorem dX1_beginsTerm_78 : decode cX1_beginsTerm 78 = .ok (.aload_n 0, 1) := by decide +kernel
theorem dX1_beginsTerm_79 : decode cX1_beginsTerm 79 = .ok (.iconst 4, 1) := by decide +kernel
theorem dX1_beginsTerm_80 : decode cX1_beginsTerm 80 = .ok (.invokevirtual 44, 3) := by decide +kernel
theorem dX1_beginsTerm_83 : decode cX1_beginsTerm 83 = .ok (.iconst 1, 1) := by decide +kernel
theorem dX1_beginsTerm_84 : decode cX1_beginsTerm 84 = .ok (.ireturn, 1) := by decide +kernel
theorem dX1_beginsTerm_85 : decode cX1_beginsTerm 85 = .ok (.aload_n 0, 1) := by decide +kernel
theorem dX1_beginsTerm_86 : decode cX1_beginsTerm 86 = .ok (.iconst 2, 1) := by decide +kernel
theorem dX1_beginsTerm_87 : decode cX1_beginsTerm 87 = .ok (.invokevirtual 44, 3) := by decide +kernel
theorem dX1_beginsTerm_90 : decode cX1_beginsTerm 90 = .ok (.iconst 1, 1) := by decide +kernel
theorem dX1_beginsTerm_91 : decode cX1_beginsTerm 91 = .ok (.ireturn, 1) := by decide +kernel
theorem dX1_beginsTerm_92 : decode cX1_beginsTerm 92 = .ok (.aload_n 0, 1) := by decide +kernel
theorem dX1_beginsTerm_93 : decode cX1_beginsTerm 93 = .ok (.iconst 2, 1) := by decide +kernel
theorem dX1_beginsTerm_94 : decode cX1_beginsTerm 94 = .ok (.invokevirtual 44, 3) := by decide +kernel
theorem dX1_beginsTerm_97 : decode cX1_beginsTerm 97 = .ok (.aload_n 0, 1) := by decide +kernel
theorem dX1_beginsTerm_98 : decode cX1_beginsTerm 98 = .ok (.iconst 2, 1) := by decide +kernel
theorem dX1_beginsTerm_99 : decode cX1_beginsTerm 99 = .ok (.invokevirtual 44, 3) := by decide +kernel
theorem dX1_beginsTerm_102 : decode cX1_beginsTerm 102 = .ok (.iconst 1, 1) := by decide +kernel
theorem dX1_beginsTerm_103 : decode cX1_beginsTerm 103 = .ok (.ireturn, 1) := by decide +kernel
theorem dX1_beginsTerm_104 : decode cX1_beginsTerm 104 = .ok (.aload_n 0, 1) := by decide +kernel
theorem dX1_beginsTerm_105 : decode cX1_beginsTerm 105 = .ok (.iconst 5, 1) := by decide +kernel
theorem dX1_beginsTerm_106 : decode cX1_beginsTerm 106 = .ok (.invokevirtual 44, 3) := by decide +kernel
theorem dX1_beginsTerm_109 : decode cX1_beginsTerm 109 = .ok (.aload_n 0, 1) := by decide +kernel
theorem dX1_beginsTerm_110 : decode cX1_beginsTerm 110 = .ok (.iconst 2, 1) := by decide +kernel
theorem dX1_beginsTerm_111 : decode cX1_beginsTerm 111 = .ok (.invokevirtual 44, 3) := by decide +kernel
theorem dX1_beginsTerm_114 : decode cX1_beginsTerm 114 = .ok (.iconst 1, 1) := by decide +kernel
theorem dX1_beginsTerm_115 : decode cX1_beginsTerm 115 = .ok (.ireturn, 1) := by decide +kernel
theorem dX1_beginsTerm_116 : decode cX1_beginsTerm 116 = .ok (.iload_n 1, 1) := by decide +kernel
theorem dX1_beginsTerm_117 : decode cX1_beginsTerm 117 = .ok (.invokestatic 65, 3) := by decide +kernel
theorem dX1_beginsTerm_120 : decode cX1_beginsTerm 120 = .ok (.ifCond .ne 10, 3) := by decide +kernel
theorem dX1_beginsTerm_123 : decode cX1_beginsTerm 123 = .ok (.iload_n 1, 1) := by decide +kernel
theorem dX1_beginsTerm_124 : decode cX1_beginsTerm 124 = .ok (.invokestatic 68, 3) := by decide +kernel
theorem dX1_beginsTerm_127 : decode cX1_beginsTerm 127 = .ok (.ifCond .eq 7, 3) := by decide +kernel
theorem dX1_beginsTerm_130 : decode cX1_beginsTerm 130 = .ok (.iconst 1, 1) := by decide +kernel
theorem dX1_beginsTerm_131 : decode cX1_beginsTerm 131 = .ok (.goto 4, 3) := by decide +kernel
theorem dX1_beginsTerm_134 : decode cX1_beginsTerm 134 = .ok (.iconst 0, 1) := by decide +kernel
theorem dX1_beginsTerm_135 : decode cX1_beginsTerm 135 = .ok (.ireturn, 1) := by decide +kernel
theorem dX1_findParts_0 : decode cX1_findParts 0 = .ok (.aload_n 0, 1) := by decide +kernel
theorem dX1_findParts_1 : decode cX1_findParts 1 = .ok (.getfield 33, 3) := by decide +kernel
theorem dX1_findParts_4 : decode cX1_findParts 4 = .ok (.iconst 1, 1) := by decide +kernel
theorem dX1_findParts_5 : decode cX1_findParts 5 = .ok (.isub, 1) := by decide +kernel
theorem dX1_findParts_6 : decode cX1_findParts 6 = .ok (.istore_n 1, 1) := by decide +kernel
theorem dX1_findParts_7 : decode cX1_findParts 7 = .ok (.iload_n 1, 1) := by decide +kernel
theorem dX1_findParts_8 : decode cX1_findParts 8 = .ok (.ifCond .lt 136, 3) := by decide +kernel
theorem dX1_findParts_11 : decode cX1_findParts 11 = .ok (.aload_n 0, 1) := by decide +kernel
theorem dX1_findParts_12 : decode cX1_findParts 12 = .ok (.getfield 9, 3) := by decide +kernel
theorem dX1_findParts_15 : decode cX1_findParts 15 = .ok (.iload_n 1, 1) := by decide +kernel
theorem dX1_findParts_16 : decode cX1_findParts 16 = .ok (.iaload, 1) := by decide +kernel
theorem dX1_findParts_17 : decode cX1_findParts 17 = .ok (.istore_n 2, 1) := by decide +kernel
theorem dX1_findParts_18 : decode cX1_findParts 18 = .ok (.aload_n 0, 1) := by decide +kernel
theorem dX1_findParts_19 : decode cX1_findParts 19 = .ok (.getfield 18, 3) := by decide +kernel
theorem dX1_findParts_22 : decode cX1_findParts 22 = .ok (.iload_n 1, 1) := by decide +kernel
theorem dX1_findParts_23 : decode cX1_findParts 23 = .ok (.aload_n 0, 1) := by decide +kernel
theorem dX1_findParts_24 : decode cX1_findParts 24 = .ok (.getfield 24, 3) := by decide +kernel
theorem dX1_findParts_27 : decode cX1_findParts 27 = .ok (.iload_n 1, 1) := by decide +kernel
theorem dX1_findParts_28 : decode cX1_findParts 28 = .ok (.iconst 1, 1) := by decide +kernel
theorem dX1_findParts_29 : decode cX1_findParts 29 = .ok (.iadd, 1) := by decide +kernel
theorem dX1_findParts_30 : decode cX1_findParts 30 = .ok (.invokestatic 71, 3) := by decide +kernel
theorem dX1_findParts_33 : decode cX1_findParts 33 = .ok (.iastore, 1) := by decide +kernel
theorem dX1_findParts_34 : decode cX1_findParts 34 = .ok (.aload_n 0, 1) := by decide +kernel
theorem dX1_findParts_35 : decode cX1_findParts 35 = .ok (.getfield 21, 3) := by decide +kernel
theorem dX1_findParts_38 : decode cX1_findParts 38 = .ok (.iload_n 1, 1) := by decide +kernel
theorem dX1_findParts_39 : decode cX1_findParts 39 = .ok (.aload_n 0, 1) := by decide +kernel
theorem dX1_findParts_40 : decode cX1_findParts 40 = .ok (.iload_n 1, 1) := by decide +kernel
theorem dX1_findParts_41 : decode cX1_findParts 41 = .ok (.invokevirtual 75, 3) := by decide +kernel
theorem dX1_findParts_44 : decode cX1_findParts 44 = .ok (.iastore, 1) := by decide +kernel
theorem dX1_findParts_45 : decode cX1_findParts 45 = .ok (.iload_n 2, 1) := by decide +kernel
theorem dX1_findParts_46 : decode cX1_findParts 46 = .ok (.invokestatic 79, 3) := by decide +kernel
theorem dX1_findParts_49 : decode cX1_findParts 49 = .ok (.ifCond .eq 25, 3) := by decide +kernel
theorem dX1_findParts_52 : decode cX1_findParts 52 = .ok (.aload_n 0, 1) := by decide +kernel
theorem dX1_findParts_53 : decode cX1_findParts 53 = .ok (.getfield 24, 3) := by decide +kernel
theorem dX1_findParts_56 : decode cX1_findParts 56 = .ok (.iload_n 1, 1) := by decide +kernel
theorem dX1_findParts_57 : decode cX1_findParts 57 = .ok (.aload_n 0, 1) := by decide +kernel
theorem dX1_findParts_58 : decode cX1_findParts 58 = .ok (.getfield 24, 3) := by decide +kernel
theorem dX1_findParts_61 : decode cX1_findParts 61 = .ok (.aload_n 0, 1) := by decide +kernel
theorem dX1_findParts_62 : decode cX1_findParts 62 = .ok (.getfield 18, 3) := by decide +kernel
theorem dX1_findParts_65 : decode cX1_findParts 65 = .ok (.iload_n 1, 1) := by decide +kernel
theorem dX1_findParts_66 : decode cX1_findParts 66 = .ok (.iaload, 1) := by decide +kernel
theorem dX1_findParts_67 : decode cX1_findParts 67 = .ok (.invokestatic 71, 3) := by decide +kernel
theorem dX1_findParts_70 : decode cX1_findParts 70 = .ok (.iastore, 1) := by decide +kernel
theorem dX1_findParts_71 : decode cX1_findParts 71 = .ok (.goto 67, 3) := by decide +kernel
theorem dX1_findParts_74 : decode cX1_findParts 74 = .ok (.iload_n 2, 1) := by decide +kernel
theorem dX1_findParts_75 : decode cX1_findParts 75 = .ok (.bipush 126, 2) := by decide +kernel
theorem dX1_findParts_77 : decode cX1_findParts 77 = .ok (.if_icmp .eq 21, 3) := by decide +kernel
theorem dX1_findParts_80 : decode cX1_findParts 80 = .ok (.iload_n 2, 1) := by decide +kernel
theorem dX1_findParts_81 : decode cX1_findParts 81 = .ok (.bipush 121, 2) := by decide +kernel
theorem dX1_findParts_83 : decode cX1_findParts 83 = .ok (.if_icmp .eq 15, 3) := by decide +kernel
theorem dX1_findParts_86 : decode cX1_findParts 86 = .ok (.iload_n 2, 1) := by decide +kernel
theorem dX1_findParts_87 : decode cX1_findParts 87 = .ok (.bipush 33, 2) := by decide +kernel
theorem dX1_findParts_89 : decode cX1_findParts 89 = .ok (.if_icmp .eq 9, 3) := by decide +kernel
theorem dX1_findParts_92 : decode cX1_findParts 92 = .ok (.iload_n 2, 1) := by decide +kernel
theorem dX1_findParts_93 : decode cX1_findParts 93 = .ok (.bipush 109, 2) := by decide +kernel
theorem dX1_findParts_95 : decode cX1_findParts 95 = .ok (.if_icmp .ne 22, 3) := by decide +kernel
theorem dX1_findParts_98 : decode cX1_findParts 98 = .ok (.aload_n 0, 1) := by decide +kernel
theorem dX1_findParts_99 : decode cX1_findParts 99 = .ok (.getfield 24, 3) := by decide +kernel
theorem dX1_findParts_102 : decode cX1_findParts 102 = .ok (.iload_n 1, 1) := by decide +kernel
theorem dX1_findParts_103 : decode cX1_findParts 103 = .ok (.aload_n 0, 1) := by decide +kernel
theorem dX1_findParts_104 : decode cX1_findParts 104 = .ok (.getfield 24, 3) := by decide +kernel
theorem dX1_findParts_107 : decode cX1_findParts 107 = .ok (.iload_n 1, 1) := by decide +kernel
theorem dX1_findParts_108 : decode cX1_findParts 108 = .ok (.iconst 1, 1) := by decide +kernel
theorem dX1_findParts_109 : decode cX1_findParts 109 = .ok (.iadd, 1) := by decide +kernel
theorem dX1_findParts_110 : decode cX1_findParts 110 = .ok (.invokestatic 71, 3) := by decide +kernel
theorem dX1_findParts_113 : decode cX1_findParts 113 = .ok (.iastore, 1) := by decide +kernel
theorem dX1_findParts_114 : decode cX1_findParts 114 = .ok (.goto 24, 3) := by decide +kernel
theorem dX1_findParts_117 : decode cX1_findParts 117 = .ok (.aload_n 0, 1) := by decide +kernel
theorem dX1_findParts_118 : decode cX1_findParts 118 = .ok (.getfield 24, 3) := by decide +kernel
theorem dX1_findParts_121 : decode cX1_findParts 121 = .ok (.iload_n 1, 1) := by decide +kernel
theorem dX1_findParts_122 : decode cX1_findParts 122 = .ok (.iload_n 2, 1) := by decide +kernel
theorem dX1_findParts_123 : decode cX1_findParts 123 = .ok (.bipush 35, 2) := by decide +kernel
theorem dX1_findParts_125 : decode cX1_findParts 125 = .ok (.if_icmp .ne 9, 3) := by decide +kernel
theorem dX1_findParts_128 : decode cX1_findParts 128 = .ok (.iload_n 1, 1) := by decide +kernel
theorem dX1_findParts_129 : decode cX1_findParts 129 = .ok (.iconst 4, 1) := by decide +kernel
theorem dX1_findParts_130 : decode cX1_findParts 130 = .ok (.iadd, 1) := by decide +kernel
theorem dX1_findParts_131 : decode cX1_findParts 131 = .ok (.goto 6, 3) := by decide +kernel
theorem dX1_findParts_134 : decode cX1_findParts 134 = .ok (.iload_n 1, 1) := by decide +kernel
theorem dX1_findParts_135 : decode cX1_findParts 135 = .ok (.iconst 1, 1) := by decide +kernel
theorem dX1_findParts_136 : decode cX1_findParts 136 = .ok (.iadd, 1) := by decide +kernel
theorem dX1_findParts_137 : decode cX1_findParts 137 = .ok (.iastore, 1) := by decide +kernel
theorem dX1_findParts_138 : decode cX1_findParts 138 = .ok (.iinc 1 (-1), 3) := by decide +kernel
theorem dX1_findParts_141 : decode cX1_findParts 141 = .ok (.goto (-134), 3) := by decide +kernel
theorem dX1_findParts_144 : decode cX1_findParts 144 = .ok (.return_, 1) := by decide +kernel
theorem dX1_numberAt_0 : decode cX1_numberAt 0 = .ok (.aload_n 0, 1) := by decide +kernel
theorem dX1_numberAt_1 : decode cX1_numberAt 1 = .ok (.getfield 9, 3) := by decide +kernel
theorem dX1_numberAt_4 : decode cX1_numberAt 4 = .ok (.iload_n 1, 1) := by decide +kernel
theorem dX1_numberAt_5 : decode cX1_numberAt 5 = .ok (.iaload, 1) := by decide +kernel
theorem dX1_numberAt_6 : decode cX1_numberAt 6 = .ok (.bipush 35, 2) := by decide +kernel
theorem dX1_numberAt_8 : decode cX1_numberAt 8 = .ok (.if_icmp .ne 33, 3) := by decide +kernel
theorem dX1_numberAt_11 : decode cX1_numberAt 11 = .ok (.bipush 100, 2) := by decide +kernel
theorem dX1_numberAt_13 : decode cX1_numberAt 13 = .ok (.aload_n 0, 1) := by decide +kernel
theorem dX1_numberAt_14 : decode cX1_numberAt 14 = .ok (.iload_n 1, 1) := by decide +kernel
theorem dX1_numberAt_15 : decode cX1_numberAt 15 = .ok (.iconst 1, 1) := by decide +kernel
theorem dX1_numberAt_16 : decode cX1_numberAt 16 = .ok (.iadd, 1) := by decide +kernel
theorem dX1_numberAt_17 : decode cX1_numberAt 17 = .ok (.invokevirtual 82, 3) := by decide +kernel
theorem dX1_numberAt_20 : decode cX1_numberAt 20 = .ok (.imul, 1) := by decide +kernel
theorem dX1_numberAt_21 : decode cX1_numberAt 21 = .ok (.bipush 10, 2) := by decide +kernel
theorem dX1_numberAt_23 : decode cX1_numberAt 23 = .ok (.aload_n 0, 1) := by decide +kernel
theorem dX1_numberAt_24 : decode cX1_numberAt 24 = .ok (.iload_n 1, 1) := by decide +kernel
theorem dX1_numberAt_25 : decode cX1_numberAt 25 = .ok (.iconst 2, 1) := by decide +kernel
theorem dX1_numberAt_26 : decode cX1_numberAt 26 = .ok (.iadd, 1) := by decide +kernel
theorem dX1_numberAt_27 : decode cX1_numberAt 27 = .ok (.invokevirtual 82, 3) := by decide +kernel
theorem dX1_numberAt_30 : decode cX1_numberAt 30 = .ok (.imul, 1) := by decide +kernel
theorem dX1_numberAt_31 : decode cX1_numberAt 31 = .ok (.iadd, 1) := by decide +kernel
theorem dX1_numberAt_32 : decode cX1_numberAt 32 = .ok (.aload_n 0, 1) := by decide +kernel
theorem dX1_numberAt_33 : decode cX1_numberAt 33 = .ok (.iload_n 1, 1) := by decide +kernel
theorem dX1_numberAt_34 : decode cX1_numberAt 34 = .ok (.iconst 3, 1) := by decide +kernel
theorem dX1_numberAt_35 : decode cX1_numberAt 35 = .ok (.iadd, 1) := by decide +kernel
theorem dX1_numberAt_36 : decode cX1_numberAt 36 = .ok (.invokevirtual 82, 3) := by decide +kernel
theorem dX1_numberAt_39 : decode cX1_numberAt 39 = .ok (.iadd, 1) := by decide +kernel
theorem dX1_numberAt_40 : decode cX1_numberAt 40 = .ok (.ireturn, 1) := by decide +kernel
theorem dX1_numberAt_41 : decode cX1_numberAt 41 = .ok (.aload_n 0, 1) := by decide +kernel
theorem dX1_numberAt_42 : decode cX1_numberAt 42 = .ok (.aload_n 0, 1) := by decide +kernel
theorem dX1_numberAt_43 : decode cX1_numberAt 43 = .ok (.getfield 9, 3) := by decide +kernel
theorem dX1_numberAt_46 : decode cX1_numberAt 46 = .ok (.iload_n 1, 1) := by decide +kernel
theorem dX1_numberAt_47 : decode cX1_numberAt 47 = .ok (.iaload, 1) := by decide +kernel
theorem dX1_numberAt_48 : decode cX1_numberAt 48 = .ok (.bipush 37, 2) := by decide +kernel
theorem dX1_numberAt_50 : decode cX1_numberAt 50 = .ok (.if_icmp .ne 12, 3) := by decide +kernel
theorem dX1_numberAt_53 : decode cX1_numberAt 53 = .ok (.aload_n 0, 1) := by decide +kernel
theorem dX1_numberAt_54 : decode cX1_numberAt 54 = .ok (.getfield 18, 3) := by decide +kernel
theorem dX1_numberAt_57 : decode cX1_numberAt 57 = .ok (.iload_n 1, 1) := by decide +kernel
theorem dX1_numberAt_58 : decode cX1_numberAt 58 = .ok (.iaload, 1) := by decide +kernel
theorem dX1_numberAt_59 : decode cX1_numberAt 59 = .ok (.goto 4, 3) := by decide +kernel
theorem dX1_numberAt_62 : decode cX1_numberAt 62 = .ok (.iload_n 1, 1) := by decide +kernel
theorem dX1_numberAt_63 : decode cX1_numberAt 63 = .ok (.invokevirtual 82, 3) := by decide +kernel
theorem dX1_numberAt_66 : decode cX1_numberAt 66 = .ok (.ireturn, 1) := by decide +kernel
theorem dX1_figureAt_0 : decode cX1_figureAt 0 = .ok (.aload_n 0, 1) := by decide +kernel
theorem dX1_figureAt_1 : decode cX1_figureAt 1 = .ok (.getfield 9, 3) := by decide +kernel
theorem dX1_figureAt_4 : decode cX1_figureAt 4 = .ok (.iload_n 1, 1) := by decide +kernel
theorem dX1_figureAt_5 : decode cX1_figureAt 5 = .ok (.invokestatic 71, 3) := by decide +kernel
theorem dX1_figureAt_8 : decode cX1_figureAt 8 = .ok (.istore_n 2, 1) := by decide +kernel
theorem dX1_figureAt_9 : decode cX1_figureAt 9 = .ok (.iload_n 2, 1) := by decide +kernel
theorem dX1_figureAt_10 : decode cX1_figureAt 10 = .ok (.invokestatic 68, 3) := by decide +kernel
theorem dX1_figureAt_13 : decode cX1_figureAt 13 = .ok (.ifCond .eq 10, 3) := by decide +kernel
theorem dX1_figureAt_16 : decode cX1_figureAt 16 = .ok (.iload_n 2, 1) := by decide +kernel
theorem dX1_figureAt_17 : decode cX1_figureAt 17 = .ok (.bipush 48, 2) := by decide +kernel
theorem dX1_figureAt_19 : decode cX1_figureAt 19 = .ok (.isub, 1) := by decide +kernel
theorem dX1_figureAt_20 : decode cX1_figureAt 20 = .ok (.goto 4, 3) := by decide +kernel
theorem dX1_figureAt_23 : decode cX1_figureAt 23 = .ok (.iconst 0, 1) := by decide +kernel
theorem dX1_figureAt_24 : decode cX1_figureAt 24 = .ok (.ireturn, 1) := by decide +kernel
theorem dX1_onlyColumn_0 : decode cX1_onlyColumn 0 = .ok (.ldc 40, 2) := by decide +kernel
theorem dX1_onlyColumn_2 : decode cX1_onlyColumn 2 = .ok (.istore_n 1, 1) := by decide +kernel
theorem dX1_onlyColumn_3 : decode cX1_onlyColumn 3 = .ok (.iconst 0, 1) := by decide +kernel
theorem dX1_onlyColumn_4 : decode cX1_onlyColumn 4 = .ok (.istore_n 2, 1) := by decide +kernel
theorem dX1_onlyColumn_5 : decode cX1_onlyColumn 5 = .ok (.iload_n 2, 1) := by decide +kernel
theorem dX1_onlyColumn_6 : decode cX1_onlyColumn 6 = .ok (.aload_n 0, 1) := by decide +kernel
theorem dX1_onlyColumn_7 : decode cX1_onlyColumn 7 = .ok (.getfield 33, 3) := by decide +kernel
theorem dX1_onlyColumn_10 : decode cX1_onlyColumn 10 = .ok (.if_icmp .ge 53, 3) := by decide +kernel
theorem dX1_onlyColumn_13 : decode cX1_onlyColumn 13 = .ok (.aload_n 0, 1) := by decide +kernel
theorem dX1_onlyColumn_14 : decode cX1_onlyColumn 14 = .ok (.getfield 9, 3) := by decide +kernel
theorem dX1_onlyColumn_17 : decode cX1_onlyColumn 17 = .ok (.iload_n 2, 1) := by decide +kernel
theorem dX1_onlyColumn_18 : decode cX1_onlyColumn 18 = .ok (.iaload, 1) := by decide +kernel
theorem dX1_onlyColumn_19 : decode cX1_onlyColumn 19 = .ok (.invokestatic 65, 3) := by decide +kernel
theorem dX1_onlyColumn_22 : decode cX1_onlyColumn 22 = .ok (.ifCond .eq 35, 3) := by decide +kernel
theorem dX1_onlyColumn_25 : decode cX1_onlyColumn 25 = .ok (.iload_n 1, 1) := by decide +kernel
theorem dX1_onlyColumn_26 : decode cX1_onlyColumn 26 = .ok (.ldc 40, 2) := by decide +kernel
theorem dX1_onlyColumn_28 : decode cX1_onlyColumn 28 = .ok (.if_icmp .eq 19, 3) := by decide +kernel
theorem dX1_onlyColumn_31 : decode cX1_onlyColumn 31 = .ok (.iload_n 1, 1) := by decide +kernel
theorem dX1_onlyColumn_32 : decode cX1_onlyColumn 32 = .ok (.aload_n 0, 1) := by decide +kernel
theorem dX1_onlyColumn_33 : decode cX1_onlyColumn 33 = .ok (.getfield 9, 3) := by decide +kernel
theorem dX1_onlyColumn_36 : decode cX1_onlyColumn 36 = .ok (.iload_n 2, 1) := by decide +kernel
theorem dX1_onlyColumn_37 : decode cX1_onlyColumn 37 = .ok (.iaload, 1) := by decide +kernel
theorem dX1_onlyColumn_38 : decode cX1_onlyColumn 38 = .ok (.bipush 97, 2) := by decide +kernel
theorem dX1_onlyColumn_40 : decode cX1_onlyColumn 40 = .ok (.isub, 1) := by decide +kernel
theorem dX1_onlyColumn_41 : decode cX1_onlyColumn 41 = .ok (.if_icmp .eq 6, 3) := by decide +kernel
theorem dX1_onlyColumn_44 : decode cX1_onlyColumn 44 = .ok (.ldc 40, 2) := by decide +kernel
theorem dX1_onlyColumn_46 : decode cX1_onlyColumn 46 = .ok (.ireturn, 1) := by decide +kernel
theorem dX1_onlyColumn_47 : decode cX1_onlyColumn 47 = .ok (.aload_n 0, 1) := by decide +kernel
theorem dX1_onlyColumn_48 : decode cX1_onlyColumn 48 = .ok (.getfield 9, 3) := by decide +kernel
theorem dX1_onlyColumn_51 : decode cX1_onlyColumn 51 = .ok (.iload_n 2, 1) := by decide +kernel
theorem dX1_onlyColumn_52 : decode cX1_onlyColumn 52 = .ok (.iaload, 1) := by decide +kernel
theorem dX1_onlyColumn_53 : decode cX1_onlyColumn 53 = .ok (.bipush 97, 2) := by decide +kernel
theorem dX1_onlyColumn_55 : decode cX1_onlyColumn 55 = .ok (.isub, 1) := by decide +kernel
theorem dX1_onlyColumn_56 : decode cX1_onlyColumn 56 = .ok (.istore_n 1, 1) := by decide +kernel
theorem dX1_onlyColumn_57 : decode cX1_onlyColumn 57 = .ok (.iinc 2 1, 3) := by decide +kernel
theorem dX1_onlyColumn_60 : decode cX1_onlyColumn 60 = .ok (.goto (-55), 3) := by decide +kernel
theorem dX1_onlyColumn_63 : decode cX1_onlyColumn 63 = .ok (.iload_n 1, 1) := by decide +kernel
theorem dX1_onlyColumn_64 : decode cX1_onlyColumn 64 = .ok (.ireturn, 1) := by decide +kernel
theorem dX2_init_0 : decode cX2_init 0 = .ok (.aload_n 0, 1) := by decide +kernel
theorem dX2_init_1 : decode cX2_init 1 = .ok (.invokespecial 3, 3) := by decide +kernel
theorem dX2_init_4 : decode cX2_init 4 = .ok (.aload_n 0, 1) := by decide +kernel
theorem dX2_init_5 : decode cX2_init 5 = .ok (.aload_n 1, 1) := by decide +kernel
theorem dX2_init_6 : decode cX2_init 6 = .ok (.putfield 9, 3) := by decide +kernel
theorem dX2_init_9 : decode cX2_init 9 = .ok (.aload_n 0, 1) := by decide +kernel
theorem dX2_init_10 : decode cX2_init 10 = .ok (.bipush 60, 2) := by decide +kernel
theorem dX2_init_12 : decode cX2_init 12 = .ok (.newarray .int, 2) := by decide +kernel
theorem dX2_init_14 : decode cX2_init 14 = .ok (.putfield 15, 3) := by decide +kernel
theorem dX2_init_17 : decode cX2_init 17 = .ok (.aload_n 0, 1) := by decide +kernel
theorem dX2_init_18 : decode cX2_init 18 = .ok (.bipush 60, 2) := by decide +kernel
theorem dX2_init_20 : decode cX2_init 20 = .ok (.newarray .int, 2) := by decide +kernel
theorem dX2_init_22 : decode cX2_init 22 = .ok (.putfield 19, 3) := by decide +kernel
theorem dX2_init_25 : decode cX2_init 25 = .ok (.aload_n 0, 1) := by decide +kernel
theorem dX2_init_26 : decode cX2_init 26 = .ok (.bipush 60, 2) := by decide +kernel
theorem dX2_init_28 : decode cX2_init 28 = .ok (.newarray .int, 2) := by decide +kernel
theorem dX2_init_30 : decode cX2_init 30 = .ok (.putfield 22, 3) := by decide +kernel
theorem dX2_init_33 : decode cX2_init 33 = .ok (.return_, 1) := by decide +kernel
theorem dX2_judge_0 : decode cX2_judge 0 = .ok (.aload_n 0, 1) := by decide +kernel
theorem dX2_judge_1 : decode cX2_judge 1 = .ok (.getfield 9, 3) := by decide +kernel
theorem dX2_judge_4 : decode cX2_judge 4 = .ok (.getfield 25, 3) := by decide +kernel
theorem dX2_judge_7 : decode cX2_judge 7 = .ok (.iconst 1, 1) := by decide +kernel
theorem dX2_judge_8 : decode cX2_judge 8 = .ok (.isub, 1) := by decide +kernel
theorem dX2_judge_9 : decode cX2_judge 9 = .ok (.istore_n 2, 1) := by decide +kernel
theorem dX2_judge_10 : decode cX2_judge 10 = .ok (.iload_n 2, 1) := by decide +kernel
theorem dX2_judge_11 : decode cX2_judge 11 = .ok (.ifCond .lt 68, 3) := by decide +kernel
theorem dX2_judge_14 : decode cX2_judge 14 = .ok (.aload_n 0, 1) := by decide +kernel
theorem dX2_judge_15 : decode cX2_judge 15 = .ok (.getfield 9, 3) := by decide +kernel
theorem dX2_judge_18 : decode cX2_judge 18 = .ok (.getfield 31, 3) := by decide +kernel
theorem dX2_judge_21 : decode cX2_judge 21 = .ok (.iload_n 2, 1) := by decide +kernel
theorem dX2_judge_22 : decode cX2_judge 22 = .ok (.iaload, 1) := by decide +kernel
theorem dX2_judge_23 : decode cX2_judge 23 = .ok (.iconst 1, 1) := by decide +kernel
theorem dX2_judge_24 : decode cX2_judge 24 = .ok (.if_icmp .ne 18, 3) := by decide +kernel
theorem dX2_judge_27 : decode cX2_judge 27 = .ok (.aload_n 0, 1) := by decide +kernel
theorem dX2_judge_28 : decode cX2_judge 28 = .ok (.getfield 15, 3) := by decide +kernel
theorem dX2_judge_31 : decode cX2_judge 31 = .ok (.iload_n 2, 1) := by decide +kernel
theorem dX2_judge_32 : decode cX2_judge 32 = .ok (.aload_n 0, 1) := by decide +kernel
theorem dX2_judge_33 : decode cX2_judge 33 = .ok (.iload_n 2, 1) := by decide +kernel
theorem dX2_judge_34 : decode cX2_judge 34 = .ok (.aload_n 1, 1) := by decide +kernel
theorem dX2_judge_35 : decode cX2_judge 35 = .ok (.invokevirtual 34, 3) := by decide +kernel
theorem dX2_judge_38 : decode cX2_judge 38 = .ok (.iastore, 1) := by decide +kernel
theorem dX2_judge_39 : decode cX2_judge 39 = .ok (.goto 34, 3) := by decide +kernel
theorem dX2_judge_42 : decode cX2_judge 42 = .ok (.aload_n 0, 1) := by decide +kernel
theorem dX2_judge_43 : decode cX2_judge 43 = .ok (.getfield 9, 3) := by decide +kernel
theorem dX2_judge_46 : decode cX2_judge 46 = .ok (.getfield 31, 3) := by decide +kernel
theorem dX2_judge_49 : decode cX2_judge 49 = .ok (.iload_n 2, 1) := by decide +kernel
theorem dX2_judge_50 : decode cX2_judge 50 = .ok (.iaload, 1) := by decide +kernel
theorem dX2_judge_51 : decode cX2_judge 51 = .ok (.iconst 2, 1) := by decide +kernel
theorem dX2_judge_52 : decode cX2_judge 52 = .ok (.if_icmp .ne 21, 3) := by decide +kernel
theorem dX2_judge_55 : decode cX2_judge 55 = .ok (.aload_n 0, 1) := by decide +kernel
theorem dX2_judge_56 : decode cX2_judge 56 = .ok (.getfield 15, 3) := by decide +kernel
theorem dX2_judge_59 : decode cX2_judge 59 = .ok (.iload_n 2, 1) := by decide +kernel
theorem dX2_judge_60 : decode cX2_judge 60 = .ok (.aload_n 0, 1) := by decide +kernel
theorem dX2_judge_61 : decode cX2_judge 61 = .ok (.iload_n 2, 1) := by decide +kernel
theorem dX2_judge_62 : decode cX2_judge 62 = .ok (.aload_n 1, 1) := by decide +kernel
theorem dX2_judge_63 : decode cX2_judge 63 = .ok (.invokevirtual 38, 3) := by decide +kernel
theorem dX2_judge_66 : decode cX2_judge 66 = .ok (.iastore, 1) := by decide +kernel
theorem dX2_judge_67 : decode cX2_judge 67 = .ok (.aload_n 0, 1) := by decide +kernel
theorem dX2_judge_68 : decode cX2_judge 68 = .ok (.iload_n 2, 1) := by decide +kernel
theorem dX2_judge_69 : decode cX2_judge 69 = .ok (.aload_n 1, 1) := by decide +kernel
theorem dX2_judge_70 : decode cX2_judge 70 = .ok (.invokevirtual 41, 3) := by decide +kernel
theorem dX2_judge_73 : decode cX2_judge 73 = .ok (.iinc 2 (-1), 3) := by decide +kernel
theorem dX2_judge_76 : decode cX2_judge 76 = .ok (.goto (-66), 3) := by decide +kernel
theorem dX2_judge_79 : decode cX2_judge 79 = .ok (.return_, 1) := by decide +kernel
theorem dX2_chancesAt_0 : decode cX2_chancesAt 0 = .ok (.aload_n 0, 1) := by decide +kernel
theorem dX2_chancesAt_1 : decode cX2_chancesAt 1 = .ok (.getfield 9, 3) := by decide +kernel
theorem dX2_chancesAt_4 : decode cX2_chancesAt 4 = .ok (.getfield 45, 3) := by decide +kernel
theorem dX2_chancesAt_7 : decode cX2_chancesAt 7 = .ok (.iload_n 1, 1) := by decide +kernel
theorem dX2_chancesAt_8 : decode cX2_chancesAt 8 = .ok (.iaload, 1) := by decide +kernel
theorem dX2_chancesAt_9 : decode cX2_chancesAt 9 = .ok (.istore_n 3, 1) := by decide +kernel
theorem dX2_chancesAt_10 : decode cX2_chancesAt 10 = .ok (.iload_n 3, 1) := by decide +kernel
theorem dX2_chancesAt_11 : decode cX2_chancesAt 11 = .ok (.bipush 109, 2) := by decide +kernel
theorem dX2_chancesAt_13 : decode cX2_chancesAt 13 = .ok (.if_icmp .ne 24, 3) := by decide +kernel
theorem dX2_chancesAt_16 : decode cX2_chancesAt 16 = .ok (.aload_n 0, 1) := by decide +kernel
theorem dX2_chancesAt_17 : decode cX2_chancesAt 17 = .ok (.getfield 9, 3) := by decide +kernel
theorem dX2_chancesAt_20 : decode cX2_chancesAt 20 = .ok (.getfield 45, 3) := by decide +kernel
theorem dX2_chancesAt_23 : decode cX2_chancesAt 23 = .ok (.iload_n 1, 1) := by decide +kernel
theorem dX2_chancesAt_24 : decode cX2_chancesAt 24 = .ok (.iconst 1, 1) := by decide +kernel
theorem dX2_chancesAt_25 : decode cX2_chancesAt 25 = .ok (.iadd, 1) := by decide +kernel
theorem dX2_chancesAt_26 : decode cX2_chancesAt 26 = .ok (.invokestatic 48, 3) := by decide +kernel
theorem dX2_chancesAt_29 : decode cX2_chancesAt 29 = .ok (.bipush 97, 2) := by decide +kernel
theorem dX2_chancesAt_31 : decode cX2_chancesAt 31 = .ok (.isub, 1) := by decide +kernel
theorem dX2_chancesAt_32 : decode cX2_chancesAt 32 = .ok (.aload_n 2, 1) := by decide +kernel
theorem dX2_chancesAt_33 : decode cX2_chancesAt 33 = .ok (.invokestatic 52, 3) := by decide +kernel
theorem dX2_chancesAt_36 : decode cX2_chancesAt 36 = .ok (.ireturn, 1) := by decide +kernel
theorem dX2_chancesAt_37 : decode cX2_chancesAt 37 = .ok (.iload_n 1, 1) := by decide +kernel
theorem dX2_chancesAt_38 : decode cX2_chancesAt 38 = .ok (.iconst 1, 1) := by decide +kernel
theorem dX2_chancesAt_39 : decode cX2_chancesAt 39 = .ok (.iadd, 1) := by decide +kernel
theorem dX2_chancesAt_40 : decode cX2_chancesAt 40 = .ok (.istore 4, 2) := by decide +kernel
theorem dX2_chancesAt_42 : decode cX2_chancesAt 42 = .ok (.aload_n 0, 1) := by decide +kernel
theorem dX2_chancesAt_43 : decode cX2_chancesAt 43 = .ok (.getfield 9, 3) := by decide +kernel
theorem dX2_chancesAt_46 : decode cX2_chancesAt 46 = .ok (.getfield 55, 3) := by decide +kernel
theorem dX2_chancesAt_49 : decode cX2_chancesAt 49 = .ok (.iload_n 1, 1) := by decide +kernel
theorem dX2_chancesAt_50 : decode cX2_chancesAt 50 = .ok (.iaload, 1) := by decide +kernel
theorem dX2_chancesAt_51 : decode cX2_chancesAt 51 = .ok (.istore 5, 2) := by decide +kernel
theorem dX2_chancesAt_53 : decode cX2_chancesAt 53 = .ok (.iload_n 3, 1) := by decide +kernel
theorem dX2_chancesAt_54 : decode cX2_chancesAt 54 = .ok (.bipush 60, 2) := by decide +kernel
theorem dX2_chancesAt_56 : decode cX2_chancesAt 56 = .ok (.if_icmp .eq 9, 3) := by decide +kernel
theorem dX2_chancesAt_59 : decode cX2_chancesAt 59 = .ok (.iload_n 3, 1) := by decide +kernel
theorem dX2_chancesAt_60 : decode cX2_chancesAt 60 = .ok (.bipush 61, 2) := by decide +kernel
theorem dX2_chancesAt_62 : decode cX2_chancesAt 62 = .ok (.if_icmp .ne 13, 3) := by decide +kernel
theorem dX2_chancesAt_65 : decode cX2_chancesAt 65 = .ok (.aload_n 0, 1) := by decide +kernel
theorem dX2_chancesAt_66 : decode cX2_chancesAt 66 = .ok (.iload_n 3, 1) := by decide +kernel
theorem dX2_chancesAt_67 : decode cX2_chancesAt 67 = .ok (.iload 4, 2) := by decide +kernel
theorem dX2_chancesAt_69 : decode cX2_chancesAt 69 = .ok (.iload 5, 2) := by decide +kernel
theorem dX2_chancesAt_71 : decode cX2_chancesAt 71 = .ok (.invokevirtual 58, 3) := by decide +kernel
theorem dX2_chancesAt_74 : decode cX2_chancesAt 74 = .ok (.ireturn, 1) := by decide +kernel
theorem dX2_chancesAt_75 : decode cX2_chancesAt 75 = .ok (.iload_n 3, 1) := by decide +kernel
theorem dX2_chancesAt_76 : decode cX2_chancesAt 76 = .ok (.bipush 33, 2) := by decide +kernel
theorem dX2_chancesAt_78 : decode cX2_chancesAt 78 = .ok (.if_icmp .ne 16, 3) := by decide +kernel
theorem dX2_chancesAt_81 : decode cX2_chancesAt 81 = .ok (.aload_n 0, 1) := by decide +kernel
theorem dX2_chancesAt_82 : decode cX2_chancesAt 82 = .ok (.getfield 15, 3) := by decide +kernel
theorem dX2_chancesAt_85 : decode cX2_chancesAt 85 = .ok (.iload 4, 2) := by decide +kernel
theorem dX2_chancesAt_87 : decode cX2_chancesAt 87 = .ok (.invokestatic 48, 3) := by decide +kernel
theorem dX2_chancesAt_90 : decode cX2_chancesAt 90 = .ok (.invokestatic 62, 3) := by decide +kernel
theorem dX2_chancesAt_93 : decode cX2_chancesAt 93 = .ok (.ireturn, 1) := by decide +kernel
theorem dX2_chancesAt_94 : decode cX2_chancesAt 94 = .ok (.iload_n 3, 1) := by decide +kernel
theorem dX2_chancesAt_95 : decode cX2_chancesAt 95 = .ok (.aload_n 0, 1) := by decide +kernel
theorem dX2_chancesAt_96 : decode cX2_chancesAt 96 = .ok (.getfield 15, 3) := by decide +kernel
theorem dX2_chancesAt_99 : decode cX2_chancesAt 99 = .ok (.iload 4, 2) := by decide +kernel
theorem dX2_chancesAt_101 : decode cX2_chancesAt 101 = .ok (.invokestatic 48, 3) := by decide +kernel
theorem dX2_chancesAt_104 : decode cX2_chancesAt 104 = .ok (.aload_n 0, 1) := by decide +kernel
theorem dX2_chancesAt_105 : decode cX2_chancesAt 105 = .ok (.getfield 15, 3) := by decide +kernel
theorem dX2_chancesAt_108 : decode cX2_chancesAt 108 = .ok (.iload 5, 2) := by decide +kernel
theorem dX2_chancesAt_110 : decode cX2_chancesAt 110 = .ok (.invokestatic 48, 3) := by decide +kernel
theorem dX2_chancesAt_113 : decode cX2_chancesAt 113 = .ok (.invokestatic 66, 3) := by decide +kernel
theorem dX2_chancesAt_116 : decode cX2_chancesAt 116 = .ok (.ireturn, 1) := by decide +kernel
theorem dX2_missingChances_0 : decode cX2_missingChances 0 = .ok (.iload_n 0, 1) := by decide +kernel
theorem dX2_missingChances_1 : decode cX2_missingChances 1 = .ok (.invokestatic 69, 3) := by decide +kernel
theorem dX2_missingChances_4 : decode cX2_missingChances 4 = .ok (.ifCond .ne 5, 3) := by decide +kernel
theorem dX2_missingChances_7 : decode cX2_missingChances 7 = .ok (.iconst 0, 1) := by decide +kernel
theorem dX2_missingChances_8 : decode cX2_missingChances 8 = .ok (.ireturn, 1) := by decide +kernel
theorem dX2_missingChances_9 : decode cX2_missingChances 9 = .ok (.aload_n 1, 1) := by decide +kernel
theorem dX2_missingChances_10 : decode cX2_missingChances 10 = .ok (.getfield 73, 3) := by decide +kernel
theorem dX2_missingChances_13 : decode cX2_missingChances 13 = .ok (.iload_n 0, 1) := by decide +kernel
theorem dX2_missingChances_14 : decode cX2_missingChances 14 = .ok (.aaload, 1) := by decide +kernel
theorem dX2_missingChances_15 : decode cX2_missingChances 15 = .ok (.getfield 79, 3) := by decide +kernel
theorem dX2_missingChances_18 : decode cX2_missingChances 18 = .ok (.istore_n 2, 1) := by decide +kernel
theorem dX2_missingChances_19 : decode cX2_missingChances 19 = .ok (.iload_n 2, 1) := by decide +kernel
theorem dX2_missingChances_20 : decode cX2_missingChances 20 = .ok (.ifCond .le 7, 3) := by decide +kernel
theorem dX2_missingChances_23 : decode cX2_missingChances 23 = .ok (.iconst 1, 1) := by decide +kernel
theorem dX2_missingChances_24 : decode cX2_missingChances 24 = .ok (.goto 4, 3) := by decide +kernel
theorem dX2_missingChances_27 : decode cX2_missingChances 27 = .ok (.iconst 0, 1) := by decide +kernel
theorem dX2_missingChances_28 : decode cX2_missingChances 28 = .ok (.istore_n 3, 1) := by decide +kernel
theorem dX2_missingChances_29 : decode cX2_missingChances 29 = .ok (.iload_n 2, 1) := by decide +kernel
theorem dX2_missingChances_30 : decode cX2_missingChances 30 = .ok (.aload_n 1, 1) := by decide +kernel
theorem dX2_missingChances_31 : decode cX2_missingChances 31 = .ok (.getfield 84, 3) := by decide +kernel
theorem dX2_missingChances_34 : decode cX2_missingChances 34 = .ok (.if_icmp .ge 9, 3) := by decide +kernel
theorem dX2_missingChances_37 : decode cX2_missingChances 37 = .ok (.iload_n 3, 1) := by decide +kernel
theorem dX2_missingChances_38 : decode cX2_missingChances 38 = .ok (.iconst 2, 1) := by decide +kernel
theorem dX2_missingChances_39 : decode cX2_missingChances 39 = .ok (.ior, 1) := by decide +kernel
theorem dX2_missingChances_40 : decode cX2_missingChances 40 = .ok (.goto 4, 3) := by decide +kernel
theorem dX2_missingChances_43 : decode cX2_missingChances 43 = .ok (.iload_n 3, 1) := by decide +kernel
theorem dX2_missingChances_44 : decode cX2_missingChances 44 = .ok (.ireturn, 1) := by decide +kernel
theorem dX2_comparedChances_0 : decode cX2_comparedChances 0 = .ok (.aload_n 0, 1) := by decide +kernel
theorem dX2_comparedChances_1 : decode cX2_comparedChances 1 = .ok (.getfield 15, 3) := by decide +kernel
theorem dX2_comparedChances_4 : decode cX2_comparedChances 4 = .ok (.iload_n 2, 1) := by decide +kernel
theorem dX2_comparedChances_5 : decode cX2_comparedChances 5 = .ok (.invokestatic 48, 3) := by decide +kernel
theorem dX2_comparedChances_8 : decode cX2_comparedChances 8 = .ok (.istore 4, 2) := by decide +kernel
theorem dX2_comparedChances_10 : decode cX2_comparedChances 10 = .ok (.aload_n 0, 1) := by decide +kernel
theorem dX2_comparedChances_11 : decode cX2_comparedChances 11 = .ok (.getfield 15, 3) := by decide +kernel
theorem dX2_comparedChances_14 : decode cX2_comparedChances 14 = .ok (.iload_n 3, 1) := by decide +kernel
theorem dX2_comparedChances_15 : decode cX2_comparedChances 15 = .ok (.invokestatic 48, 3) := by decide +kernel
theorem dX2_comparedChances_18 : decode cX2_comparedChances 18 = .ok (.istore 5, 2) := by decide +kernel
theorem dX2_comparedChances_20 : decode cX2_comparedChances 20 = .ok (.iload 4, 2) := by decide +kernel
theorem dX2_comparedChances_22 : decode cX2_comparedChances 22 = .ok (.iload 5, 2) := by decide +kernel
theorem dX2_comparedChances_24 : decode cX2_comparedChances 24 = .ok (.ior, 1) := by decide +kernel
theorem dX2_comparedChances_25 : decode cX2_comparedChances 25 = .ok (.iconst 2, 1) := by decide +kernel
theorem dX2_comparedChances_26 : decode cX2_comparedChances 26 = .ok (.iand, 1) := by decide +kernel
theorem dX2_comparedChances_27 : decode cX2_comparedChances 27 = .ok (.ifCond .eq 7, 3) := by decide +kernel
theorem dX2_comparedChances_30 : decode cX2_comparedChances 30 = .ok (.iconst 4, 1) := by decide +kernel
theorem dX2_comparedChances_31 : decode cX2_comparedChances 31 = .ok (.goto 4, 3) := by decide +kernel
theorem dX2_comparedChances_34 : decode cX2_comparedChances 34 = .ok (.iconst 0, 1) := by decide +kernel
theorem dX2_comparedChances_35 : decode cX2_comparedChances 35 = .ok (.istore 6, 2) := by decide +kernel
theorem dX2_comparedChances_37 : decode cX2_comparedChances 37 = .ok (.iload 4, 2) := by decide +kernel
theorem dX2_comparedChances_39 : decode cX2_comparedChances 39 = .ok (.iload 5, 2) := by decide +kernel
theorem dX2_comparedChances_41 : decode cX2_comparedChances 41 = .ok (.iand, 1) := by decide +kernel
theorem dX2_comparedChances_42 : decode cX2_comparedChances 42 = .ok (.iconst 1, 1) := by decide +kernel
theorem dX2_comparedChances_43 : decode cX2_comparedChances 43 = .ok (.iand, 1) := by decide +kernel
theorem dX2_comparedChances_44 : decode cX2_comparedChances 44 = .ok (.ifCond .ne 6, 3) := by decide +kernel
theorem dX2_comparedChances_47 : decode cX2_comparedChances 47 = .ok (.iload 6, 2) := by decide +kernel
theorem dX2_comparedChances_49 : decode cX2_comparedChances 49 = .ok (.ireturn, 1) := by decide +kernel
theorem dX2_comparedChances_50 : decode cX2_comparedChances 50 = .ok (.aload_n 0, 1) := by decide +kernel
theorem dX2_comparedChances_51 : decode cX2_comparedChances 51 = .ok (.getfield 19, 3) := by decide +kernel
theorem dX2_comparedChances_54 : decode cX2_comparedChances 54 = .ok (.iload_n 2, 1) := by decide +kernel
theorem dX2_comparedChances_55 : decode cX2_comparedChances 55 = .ok (.invokestatic 48, 3) := by decide +kernel
theorem dX2_comparedChances_58 : decode cX2_comparedChances 58 = .ok (.istore 7, 2) := by decide +kernel
theorem dX2_comparedChances_60 : decode cX2_comparedChances 60 = .ok (.aload_n 0, 1) := by decide +kernel
theorem dX2_comparedChances_61 : decode cX2_comparedChances 61 = .ok (.getfield 22, 3) := by decide +kernel
theorem dX2_comparedChances_64 : decode cX2_comparedChances 64 = .ok (.iload_n 2, 1) := by decide +kernel
theorem dX2_comparedChances_65 : decode cX2_comparedChances 65 = .ok (.invokestatic 48, 3) := by decide +kernel
theorem dX2_comparedChances_68 : decode cX2_comparedChances 68 = .ok (.istore 8, 2) := by decide +kernel
theorem dX2_comparedChances_70 : decode cX2_comparedChances 70 = .ok (.aload_n 0, 1) := by decide +kernel
theorem dX2_comparedChances_71 : decode cX2_comparedChances 71 = .ok (.getfield 19, 3) := by decide +kernel
theorem dX2_comparedChances_74 : decode cX2_comparedChances 74 = .ok (.iload_n 3, 1) := by decide +kernel
theorem dX2_comparedChances_75 : decode cX2_comparedChances 75 = .ok (.invokestatic 48, 3) := by decide +kernel
theorem dX2_comparedChances_78 : decode cX2_comparedChances 78 = .ok (.istore 9, 2) := by decide +kernel
theorem dX2_comparedChances_80 : decode cX2_comparedChances 80 = .ok (.aload_n 0, 1) := by decide +kernel
theorem dX2_comparedChances_81 : decode cX2_comparedChances 81 = .ok (.getfield 22, 3) := by decide +kernel
theorem dX2_comparedChances_84 : decode cX2_comparedChances 84 = .ok (.iload_n 3, 1) := by decide +kernel
theorem dX2_comparedChances_85 : decode cX2_comparedChances 85 = .ok (.invokestatic 48, 3) := by decide +kernel
theorem dX2_comparedChances_88 : decode cX2_comparedChances 88 = .ok (.istore 10, 2) := by decide +kernel
theorem dX2_comparedChances_90 : decode cX2_comparedChances 90 = .ok (.iload_n 1, 1) := by decide +kernel
theorem dX2_comparedChances_91 : decode cX2_comparedChances 91 = .ok (.bipush 60, 2) := by decide +kernel
theorem dX2_comparedChances_93 : decode cX2_comparedChances 93 = .ok (.if_icmp .ne 18, 3) := by decide +kernel
theorem dX2_comparedChances_96 : decode cX2_comparedChances 96 = .ok (.iload 7, 2) := by decide +kernel
theorem dX2_comparedChances_98 : decode cX2_comparedChances 98 = .ok (.iload 10, 2) := by decide +kernel
theorem dX2_comparedChances_100 : decode cX2_comparedChances 100 = .ok (.if_icmp .ge 7, 3) := by decide +kernel
theorem dX2_comparedChances_103 : decode cX2_comparedChances 103 = .ok (.iconst 1, 1) := by decide +kernel
theorem dX2_comparedChances_104 : decode cX2_comparedChances 104 = .ok (.goto 26, 3) := by decide +kernel
theorem dX2_comparedChances_107 : decode cX2_comparedChances 107 = .ok (.iconst 0, 1) := by decide +kernel
theorem dX2_comparedChances_108 : decode cX2_comparedChances 108 = .ok (.goto 22, 3) := by decide +kernel
theorem dX2_comparedChances_111 : decode cX2_comparedChances 111 = .ok (.iload 7, 2) := by decide +kernel
theorem dX2_comparedChances_113 : decode cX2_comparedChances 113 = .ok (.iload 10, 2) := by decide +kernel
theorem dX2_comparedChances_115 : decode cX2_comparedChances 115 = .ok (.if_icmp .gt 14, 3) := by decide +kernel
theorem dX2_comparedChances_118 : decode cX2_comparedChances 118 = .ok (.iload 9, 2) := by decide +kernel
theorem dX2_comparedChances_120 : decode cX2_comparedChances 120 = .ok (.iload 8, 2) := by decide +kernel
theorem dX2_comparedChances_122 : decode cX2_comparedChances 122 = .ok (.if_icmp .gt 7, 3) := by decide +kernel
theorem dX2_comparedChances_125 : decode cX2_comparedChances 125 = .ok (.iconst 1, 1) := by decide +kernel
theorem dX2_comparedChances_126 : decode cX2_comparedChances 126 = .ok (.goto 4, 3) := by decide +kernel
theorem dX2_comparedChances_129 : decode cX2_comparedChances 129 = .ok (.iconst 0, 1) := by decide +kernel
theorem dX2_comparedChances_130 : decode cX2_comparedChances 130 = .ok (.istore 11, 2) := by decide +kernel
theorem dX2_comparedChances_132 : decode cX2_comparedChances 132 = .ok (.iload 7, 2) := by decide +kernel
theorem dX2_comparedChances_134 : decode cX2_comparedChances 134 = .ok (.iload 8, 2) := by decide +kernel
theorem dX2_comparedChances_136 : decode cX2_comparedChances 136 = .ok (.if_icmp .ne 21, 3) := by decide +kernel
theorem dX2_comparedChances_139 : decode cX2_comparedChances 139 = .ok (.iload 7, 2) := by decide +kernel
theorem dX2_comparedChances_141 : decode cX2_comparedChances 141 = .ok (.iload 9, 2) := by decide +kernel
theorem dX2_comparedChances_143 : decode cX2_comparedChances 143 = .ok (.if_icmp .ne 14, 3) := by decide +kernel
theorem dX2_comparedChances_146 : decode cX2_comparedChances 146 = .ok (.iload 7, 2) := by decide +kernel
theorem dX2_comparedChances_148 : decode cX2_comparedChances 148 = .ok (.iload 10, 2) := by decide +kernel
theorem dX2_comparedChances_150 : decode cX2_comparedChances 150 = .ok (.if_icmp .ne 7, 3) := by decide +kernel
theorem dX2_comparedChances_153 : decode cX2_comparedChances 153 = .ok (.iconst 1, 1) := by decide +kernel
theorem dX2_comparedChances_154 : decode cX2_comparedChances 154 = .ok (.goto 4, 3) := by decide +kernel
theorem dX2_comparedChances_157 : decode cX2_comparedChances 157 = .ok (.iconst 0, 1) := by decide +kernel
theorem dX2_comparedChances_158 : decode cX2_comparedChances 158 = .ok (.istore 12, 2) := by decide +kernel
theorem dX2_comparedChances_160 : decode cX2_comparedChances 160 = .ok (.iload_n 1, 1) := by decide +kernel
theorem dX2_comparedChances_161 : decode cX2_comparedChances 161 = .ok (.bipush 60, 2) := by decide +kernel
theorem dX2_comparedChances_163 : decode cX2_comparedChances 163 = .ok (.if_icmp .ne 18, 3) := by decide +kernel
theorem dX2_comparedChances_166 : decode cX2_comparedChances 166 = .ok (.iload 8, 2) := by decide +kernel
theorem dX2_comparedChances_168 : decode cX2_comparedChances 168 = .ok (.iload 9, 2) := by decide +kernel
theorem dX2_comparedChances_170 : decode cX2_comparedChances 170 = .ok (.if_icmp .lt 7, 3) := by decide +kernel
theorem dX2_comparedChances_173 : decode cX2_comparedChances 173 = .ok (.iconst 1, 1) := by decide +kernel
theorem dX2_comparedChances_174 : decode cX2_comparedChances 174 = .ok (.goto 17, 3) := by decide +kernel
theorem dX2_comparedChances_177 : decode cX2_comparedChances 177 = .ok (.iconst 0, 1) := by decide +kernel
theorem dX2_comparedChances_178 : decode cX2_comparedChances 178 = .ok (.goto 13, 3) := by decide +kernel
theorem dX2_comparedChances_181 : decode cX2_comparedChances 181 = .ok (.iload 12, 2) := by decide +kernel
theorem dX2_comparedChances_183 : decode cX2_comparedChances 183 = .ok (.ifCond .ne 7, 3) := by decide +kernel
theorem dX2_comparedChances_186 : decode cX2_comparedChances 186 = .ok (.iconst 1, 1) := by decide +kernel
theorem dX2_comparedChances_187 : decode cX2_comparedChances 187 = .ok (.goto 4, 3) := by decide +kernel
theorem dX2_comparedChances_190 : decode cX2_comparedChances 190 = .ok (.iconst 0, 1) := by decide +kernel
theorem dX2_comparedChances_191 : decode cX2_comparedChances 191 = .ok (.istore 13, 2) := by decide +kernel
theorem dX2_comparedChances_193 : decode cX2_comparedChances 193 = .ok (.iload 6, 2) := by decide +kernel
theorem dX2_comparedChances_195 : decode cX2_comparedChances 195 = .ok (.iload 11, 2) := by decide +kernel
theorem dX2_comparedChances_197 : decode cX2_comparedChances 197 = .ok (.ifCond .eq 7, 3) := by decide +kernel
theorem dX2_comparedChances_200 : decode cX2_comparedChances 200 = .ok (.iconst 1, 1) := by decide +kernel
theorem dX2_comparedChances_201 : decode cX2_comparedChances 201 = .ok (.goto 4, 3) := by decide +kernel
theorem dX2_comparedChances_204 : decode cX2_comparedChances 204 = .ok (.iconst 0, 1) := by decide +kernel
theorem dX2_comparedChances_205 : decode cX2_comparedChances 205 = .ok (.ior, 1) := by decide +kernel
theorem dX2_comparedChances_206 : decode cX2_comparedChances 206 = .ok (.iload 13, 2) := by decide +kernel
theorem dX2_comparedChances_208 : decode cX2_comparedChances 208 = .ok (.ifCond .eq 7, 3) := by decide +kernel
theorem dX2_comparedChances_211 : decode cX2_comparedChances 211 = .ok (.iconst 2, 1) := by decide +kernel
theorem dX2_comparedChances_212 : decode cX2_comparedChances 212 = .ok (.goto 4, 3) := by decide +kernel
theorem dX2_comparedChances_215 : decode cX2_comparedChances 215 = .ok (.iconst 0, 1) := by decide +kernel
theorem dX2_comparedChances_216 : decode cX2_comparedChances 216 = .ok (.ior, 1) := by decide +kernel
theorem dX2_comparedChances_217 : decode cX2_comparedChances 217 = .ok (.ireturn, 1) := by decide +kernel
theorem dX2_notChances_0 : decode cX2_notChances 0 = .ok (.iconst 0, 1) := by decide +kernel
theorem dX2_notChances_1 : decode cX2_notChances 1 = .ok (.istore_n 1, 1) := by decide +kernel
theorem dX2_notChances_2 : decode cX2_notChances 2 = .ok (.iconst 0, 1) := by decide +kernel
theorem dX2_notChances_3 : decode cX2_notChances 3 = .ok (.istore_n 2, 1) := by decide +kernel
theorem dX2_notChances_4 : decode cX2_notChances 4 = .ok (.iload_n 2, 1) := by decide +kernel
theorem dX2_notChances_5 : decode cX2_notChances 5 = .ok (.iconst 2, 1) := by decide +kernel
theorem dX2_notChances_6 : decode cX2_notChances 6 = .ok (.if_icmp .gt 28, 3) := by decide +kernel
theorem dX2_notChances_9 : decode cX2_notChances 9 = .ok (.iload_n 0, 1) := by decide +kernel
theorem dX2_notChances_10 : decode cX2_notChances 10 = .ok (.iload_n 2, 1) := by decide +kernel
theorem dX2_notChances_11 : decode cX2_notChances 11 = .ok (.invokestatic 87, 3) := by decide +kernel
theorem dX2_notChances_14 : decode cX2_notChances 14 = .ok (.iand, 1) := by decide +kernel
theorem dX2_notChances_15 : decode cX2_notChances 15 = .ok (.ifCond .eq 13, 3) := by decide +kernel
theorem dX2_notChances_18 : decode cX2_notChances 18 = .ok (.iload_n 1, 1) := by decide +kernel
theorem dX2_notChances_19 : decode cX2_notChances 19 = .ok (.iload_n 2, 1) := by decide +kernel
theorem dX2_notChances_20 : decode cX2_notChances 20 = .ok (.invokestatic 90, 3) := by decide +kernel
theorem dX2_notChances_23 : decode cX2_notChances 23 = .ok (.invokestatic 87, 3) := by decide +kernel
theorem dX2_notChances_26 : decode cX2_notChances 26 = .ok (.ior, 1) := by decide +kernel
theorem dX2_notChances_27 : decode cX2_notChances 27 = .ok (.istore_n 1, 1) := by decide +kernel
theorem dX2_notChances_28 : decode cX2_notChances 28 = .ok (.iinc 2 1, 3) := by decide +kernel
theorem dX2_notChances_31 : decode cX2_notChances 31 = .ok (.goto (-27), 3) := by decide +kernel
theorem dX2_notChances_34 : decode cX2_notChances 34 = .ok (.iload_n 1, 1) := by decide +kernel
theorem dX2_notChances_35 : decode cX2_notChances 35 = .ok (.ireturn, 1) := by decide +kernel
theorem dX2_joinedChances_0 : decode cX2_joinedChances 0 = .ok (.iconst 0, 1) := by decide +kernel
theorem dX2_joinedChances_1 : decode cX2_joinedChances 1 = .ok (.istore_n 3, 1) := by decide +kernel
theorem dX2_joinedChances_2 : decode cX2_joinedChances 2 = .ok (.iconst 0, 1) := by decide +kernel
theorem dX2_joinedChances_3 : decode cX2_joinedChances 3 = .ok (.istore 4, 2) := by decide +kernel
theorem dX2_joinedChances_5 : decode cX2_joinedChances 5 = .ok (.iload 4, 2) := by decide +kernel
theorem dX2_joinedChances_7 : decode cX2_joinedChances 7 = .ok (.iconst 2, 1) := by decide +kernel
theorem dX2_joinedChances_8 : decode cX2_joinedChances 8 = .ok (.if_icmp .gt 73, 3) := by decide +kernel
theorem dX2_joinedChances_11 : decode cX2_joinedChances 11 = .ok (.iconst 0, 1) := by decide +kernel
theorem dX2_joinedChances_12 : decode cX2_joinedChances 12 = .ok (.istore 5, 2) := by decide +kernel
theorem dX2_joinedChances_14 : decode cX2_joinedChances 14 = .ok (.iload 5, 2) := by decide +kernel
theorem dX2_joinedChances_16 : decode cX2_joinedChances 16 = .ok (.iconst 2, 1) := by decide +kernel
theorem dX2_joinedChances_17 : decode cX2_joinedChances 17 = .ok (.if_icmp .gt 58, 3) := by decide +kernel
theorem dX2_joinedChances_20 : decode cX2_joinedChances 20 = .ok (.iload_n 1, 1) := by decide +kernel
theorem dX2_joinedChances_21 : decode cX2_joinedChances 21 = .ok (.iload 4, 2) := by decide +kernel
theorem dX2_joinedChances_23 : decode cX2_joinedChances 23 = .ok (.invokestatic 87, 3) := by decide +kernel
theorem dX2_joinedChances_26 : decode cX2_joinedChances 26 = .ok (.iand, 1) := by decide +kernel
theorem dX2_joinedChances_27 : decode cX2_joinedChances 27 = .ok (.ifCond .eq 42, 3) := by decide +kernel
theorem dX2_joinedChances_30 : decode cX2_joinedChances 30 = .ok (.iload_n 2, 1) := by decide +kernel
theorem dX2_joinedChances_31 : decode cX2_joinedChances 31 = .ok (.iload 5, 2) := by decide +kernel
theorem dX2_joinedChances_33 : decode cX2_joinedChances 33 = .ok (.invokestatic 87, 3) := by decide +kernel
theorem dX2_joinedChances_36 : decode cX2_joinedChances 36 = .ok (.iand, 1) := by decide +kernel
theorem dX2_joinedChances_37 : decode cX2_joinedChances 37 = .ok (.ifCond .eq 32, 3) := by decide +kernel
theorem dX2_joinedChances_40 : decode cX2_joinedChances 40 = .ok (.iload_n 3, 1) := by decide +kernel
theorem dX2_joinedChances_41 : decode cX2_joinedChances 41 = .ok (.iload_n 0, 1) := by decide +kernel
theorem dX2_joinedChances_42 : decode cX2_joinedChances 42 = .ok (.bipush 38, 2) := by decide +kernel
theorem dX2_joinedChances_44 : decode cX2_joinedChances 44 = .ok (.if_icmp .ne 13, 3) := by decide +kernel
theorem dX2_joinedChances_47 : decode cX2_joinedChances 47 = .ok (.iload 4, 2) := by decide +kernel
theorem dX2_joinedChances_49 : decode cX2_joinedChances 49 = .ok (.iload 5, 2) := by decide +kernel
theorem dX2_joinedChances_51 : decode cX2_joinedChances 51 = .ok (.invokestatic 93, 3) := by decide +kernel
theorem dX2_joinedChances_54 : decode cX2_joinedChances 54 = .ok (.goto 10, 3) := by decide +kernel
theorem dX2_joinedChances_57 : decode cX2_joinedChances 57 = .ok (.iload 4, 2) := by decide +kernel
theorem dX2_joinedChances_59 : decode cX2_joinedChances 59 = .ok (.iload 5, 2) := by decide +kernel
theorem dX2_joinedChances_61 : decode cX2_joinedChances 61 = .ok (.invokestatic 97, 3) := by decide +kernel
theorem dX2_joinedChances_64 : decode cX2_joinedChances 64 = .ok (.invokestatic 87, 3) := by decide +kernel
theorem dX2_joinedChances_67 : decode cX2_joinedChances 67 = .ok (.ior, 1) := by decide +kernel
theorem dX2_joinedChances_68 : decode cX2_joinedChances 68 = .ok (.istore_n 3, 1) := by decide +kernel
theorem dX2_joinedChances_69 : decode cX2_joinedChances 69 = .ok (.iinc 5 1, 3) := by decide +kernel
theorem dX2_joinedChances_72 : decode cX2_joinedChances 72 = .ok (.goto (-58), 3) := by decide +kernel
theorem dX2_joinedChances_75 : decode cX2_joinedChances 75 = .ok (.iinc 4 1, 3) := by decide +kernel
theorem dX2_joinedChances_78 : decode cX2_joinedChances 78 = .ok (.goto (-73), 3) := by decide +kernel
theorem dX2_joinedChances_81 : decode cX2_joinedChances 81 = .ok (.iload_n 3, 1) := by decide +kernel
theorem dX2_joinedChances_82 : decode cX2_joinedChances 82 = .ok (.ireturn, 1) := by decide +kernel
theorem dX2_kindAt_0 : decode cX2_kindAt 0 = .ok (.aload_n 0, 1) := by decide +kernel
theorem dX2_kindAt_1 : decode cX2_kindAt 1 = .ok (.getfield 9, 3) := by decide +kernel
theorem dX2_kindAt_4 : decode cX2_kindAt 4 = .ok (.getfield 45, 3) := by decide +kernel
theorem dX2_kindAt_7 : decode cX2_kindAt 7 = .ok (.iload_n 1, 1) := by decide +kernel
theorem dX2_kindAt_8 : decode cX2_kindAt 8 = .ok (.iaload, 1) := by decide +kernel
theorem dX2_kindAt_9 : decode cX2_kindAt 9 = .ok (.istore_n 3, 1) := by decide +kernel
theorem dX2_kindAt_10 : decode cX2_kindAt 10 = .ok (.iload_n 3, 1) := by decide +kernel
theorem dX2_kindAt_11 : decode cX2_kindAt 11 = .ok (.invokestatic 100, 3) := by decide +kernel
theorem dX2_kindAt_14 : decode cX2_kindAt 14 = .ok (.ifCond .eq 48, 3) := by decide +kernel
theorem dX2_kindAt_17 : decode cX2_kindAt 17 = .ok (.aload_n 2, 1) := by decide +kernel
theorem dX2_kindAt_18 : decode cX2_kindAt 18 = .ok (.getfield 73, 3) := by decide +kernel
theorem dX2_kindAt_21 : decode cX2_kindAt 21 = .ok (.iload_n 3, 1) := by decide +kernel
theorem dX2_kindAt_22 : decode cX2_kindAt 22 = .ok (.bipush 97, 2) := by decide +kernel
theorem dX2_kindAt_24 : decode cX2_kindAt 24 = .ok (.isub, 1) := by decide +kernel
theorem dX2_kindAt_25 : decode cX2_kindAt 25 = .ok (.aaload, 1) := by decide +kernel
theorem dX2_kindAt_26 : decode cX2_kindAt 26 = .ok (.getfield 79, 3) := by decide +kernel
theorem dX2_kindAt_29 : decode cX2_kindAt 29 = .ok (.istore 4, 2) := by decide +kernel
theorem dX2_kindAt_31 : decode cX2_kindAt 31 = .ok (.iload 4, 2) := by decide +kernel
theorem dX2_kindAt_33 : decode cX2_kindAt 33 = .ok (.ifCond .le 7, 3) := by decide +kernel
theorem dX2_kindAt_36 : decode cX2_kindAt 36 = .ok (.iconst 2, 1) := by decide +kernel
theorem dX2_kindAt_37 : decode cX2_kindAt 37 = .ok (.goto 4, 3) := by decide +kernel
theorem dX2_kindAt_40 : decode cX2_kindAt 40 = .ok (.iconst 0, 1) := by decide +kernel
theorem dX2_kindAt_41 : decode cX2_kindAt 41 = .ok (.istore 5, 2) := by decide +kernel
theorem dX2_kindAt_43 : decode cX2_kindAt 43 = .ok (.iload 4, 2) := by decide +kernel
theorem dX2_kindAt_45 : decode cX2_kindAt 45 = .ok (.aload_n 2, 1) := by decide +kernel
theorem dX2_kindAt_46 : decode cX2_kindAt 46 = .ok (.getfield 84, 3) := by decide +kernel
theorem dX2_kindAt_49 : decode cX2_kindAt 49 = .ok (.if_icmp .ge 10, 3) := by decide +kernel
theorem dX2_kindAt_52 : decode cX2_kindAt 52 = .ok (.iload 5, 2) := by decide +kernel
theorem dX2_kindAt_54 : decode cX2_kindAt 54 = .ok (.iconst 1, 1) := by decide +kernel
theorem dX2_kindAt_55 : decode cX2_kindAt 55 = .ok (.ior, 1) := by decide +kernel
theorem dX2_kindAt_56 : decode cX2_kindAt 56 = .ok (.goto 5, 3) := by decide +kernel
theorem dX2_kindAt_59 : decode cX2_kindAt 59 = .ok (.iload 5, 2) := by decide +kernel
theorem dX2_kindAt_61 : decode cX2_kindAt 61 = .ok (.ireturn, 1) := by decide +kernel
theorem dX2_kindAt_62 : decode cX2_kindAt 62 = .ok (.iload_n 3, 1) := by decide +kernel
theorem dX2_kindAt_63 : decode cX2_kindAt 63 = .ok (.invokestatic 103, 3) := by decide +kernel
theorem dX2_kindAt_66 : decode cX2_kindAt 66 = .ok (.ifCond .ne 9, 3) := by decide +kernel
theorem dX2_kindAt_69 : decode cX2_kindAt 69 = .ok (.iload_n 3, 1) := by decide +kernel
theorem dX2_kindAt_70 : decode cX2_kindAt 70 = .ok (.bipush 35, 2) := by decide +kernel
theorem dX2_kindAt_72 : decode cX2_kindAt 72 = .ok (.if_icmp .ne 5, 3) := by decide +kernel
theorem dX2_kindAt_75 : decode cX2_kindAt 75 = .ok (.iconst 1, 1) := by decide +kernel
theorem dX2_kindAt_76 : decode cX2_kindAt 76 = .ok (.ireturn, 1) := by decide +kernel
theorem dX2_kindAt_77 : decode cX2_kindAt 77 = .ok (.aload_n 0, 1) := by decide +kernel
theorem dX2_kindAt_78 : decode cX2_kindAt 78 = .ok (.getfield 15, 3) := by decide +kernel
theorem dX2_kindAt_81 : decode cX2_kindAt 81 = .ok (.iload_n 1, 1) := by decide +kernel
theorem dX2_kindAt_82 : decode cX2_kindAt 82 = .ok (.iconst 1, 1) := by decide +kernel
theorem dX2_kindAt_83 : decode cX2_kindAt 83 = .ok (.iadd, 1) := by decide +kernel
theorem dX2_kindAt_84 : decode cX2_kindAt 84 = .ok (.invokestatic 48, 3) := by decide +kernel
theorem dX2_kindAt_87 : decode cX2_kindAt 87 = .ok (.istore 4, 2) := by decide +kernel
theorem dX2_kindAt_89 : decode cX2_kindAt 89 = .ok (.iload_n 3, 1) := by decide +kernel
theorem dX2_kindAt_90 : decode cX2_kindAt 90 = .ok (.invokestatic 106, 3) := by decide +kernel
theorem dX2_kindAt_93 : decode cX2_kindAt 93 = .ok (.ifCond .ne 6, 3) := by decide +kernel
theorem dX2_kindAt_96 : decode cX2_kindAt 96 = .ok (.iload 4, 2) := by decide +kernel
theorem dX2_kindAt_98 : decode cX2_kindAt 98 = .ok (.ireturn, 1) := by decide +kernel
theorem dX2_kindAt_99 : decode cX2_kindAt 99 = .ok (.aload_n 0, 1) := by decide +kernel
theorem dX2_kindAt_100 : decode cX2_kindAt 100 = .ok (.getfield 15, 3) := by decide +kernel
theorem dX2_kindAt_103 : decode cX2_kindAt 103 = .ok (.aload_n 0, 1) := by decide +kernel
theorem dX2_kindAt_104 : decode cX2_kindAt 104 = .ok (.getfield 9, 3) := by decide +kernel
theorem dX2_kindAt_107 : decode cX2_kindAt 107 = .ok (.getfield 55, 3) := by decide +kernel
theorem dX2_kindAt_110 : decode cX2_kindAt 110 = .ok (.iload_n 1, 1) := by decide +kernel
theorem dX2_kindAt_111 : decode cX2_kindAt 111 = .ok (.iaload, 1) := by decide +kernel
theorem dX2_kindAt_112 : decode cX2_kindAt 112 = .ok (.invokestatic 48, 3) := by decide +kernel
theorem dX2_kindAt_115 : decode cX2_kindAt 115 = .ok (.istore 5, 2) := by decide +kernel
theorem dX2_kindAt_117 : decode cX2_kindAt 117 = .ok (.iload 4, 2) := by decide +kernel
theorem dX2_kindAt_119 : decode cX2_kindAt 119 = .ok (.iload 5, 2) := by decide +kernel
theorem dX2_kindAt_121 : decode cX2_kindAt 121 = .ok (.iand, 1) := by decide +kernel
theorem dX2_kindAt_122 : decode cX2_kindAt 122 = .ok (.iconst 1, 1) := by decide +kernel
theorem dX2_kindAt_123 : decode cX2_kindAt 123 = .ok (.iand, 1) := by decide +kernel
theorem dX2_kindAt_124 : decode cX2_kindAt 124 = .ok (.iload 4, 2) := by decide +kernel
theorem dX2_kindAt_126 : decode cX2_kindAt 126 = .ok (.iload 5, 2) := by decide +kernel
theorem dX2_kindAt_128 : decode cX2_kindAt 128 = .ok (.ior, 1) := by decide +kernel
theorem dX2_kindAt_129 : decode cX2_kindAt 129 = .ok (.iconst 2, 1) := by decide +kernel
theorem dX2_kindAt_130 : decode cX2_kindAt 130 = .ok (.iand, 1) := by decide +kernel
theorem dX2_kindAt_131 : decode cX2_kindAt 131 = .ok (.ior, 1) := by decide +kernel
theorem dX2_kindAt_132 : decode cX2_kindAt 132 = .ok (.ireturn, 1) := by decide +kernel
theorem dX2_findBounds_0 : decode cX2_findBounds 0 = .ok (.aload_n 0, 1) := by decide +kernel
theorem dX2_findBounds_1 : decode cX2_findBounds 1 = .ok (.getfield 9, 3) := by decide +kernel
theorem dX2_findBounds_4 : decode cX2_findBounds 4 = .ok (.getfield 45, 3) := by decide +kernel
theorem dX2_findBounds_7 : decode cX2_findBounds 7 = .ok (.iload_n 1, 1) := by decide +kernel
theorem dX2_findBounds_8 : decode cX2_findBounds 8 = .ok (.iaload, 1) := by decide +kernel
theorem dX2_findBounds_9 : decode cX2_findBounds 9 = .ok (.istore_n 3, 1) := by decide +kernel
theorem dX2_findBounds_10 : decode cX2_findBounds 10 = .ok (.aload_n 0, 1) := by decide +kernel
theorem dX2_findBounds_11 : decode cX2_findBounds 11 = .ok (.getfield 15, 3) := by decide +kernel
theorem dX2_findBounds_14 : decode cX2_findBounds 14 = .ok (.iload_n 1, 1) := by decide +kernel
theorem dX2_findBounds_15 : decode cX2_findBounds 15 = .ok (.iaload, 1) := by decide +kernel
theorem dX2_findBounds_16 : decode cX2_findBounds 16 = .ok (.iconst 1, 1) := by decide +kernel
theorem dX2_findBounds_17 : decode cX2_findBounds 17 = .ok (.iand, 1) := by decide +kernel
theorem dX2_findBounds_18 : decode cX2_findBounds 18 = .ok (.ifCond .ne 13, 3) := by decide +kernel
theorem dX2_findBounds_21 : decode cX2_findBounds 21 = .ok (.aload_n 0, 1) := by decide +kernel
theorem dX2_findBounds_22 : decode cX2_findBounds 22 = .ok (.iload_n 1, 1) := by decide +kernel
theorem dX2_findBounds_23 : decode cX2_findBounds 23 = .ok (.ldc 109, 2) := by decide +kernel
theorem dX2_findBounds_25 : decode cX2_findBounds 25 = .ok (.ldc 109, 2) := by decide +kernel
theorem dX2_findBounds_27 : decode cX2_findBounds 27 = .ok (.invokevirtual 110, 3) := by decide +kernel
theorem dX2_findBounds_30 : decode cX2_findBounds 30 = .ok (.return_, 1) := by decide +kernel
theorem dX2_findBounds_31 : decode cX2_findBounds 31 = .ok (.iload_n 3, 1) := by decide +kernel
theorem dX2_findBounds_32 : decode cX2_findBounds 32 = .ok (.invokestatic 100, 3) := by decide +kernel
theorem dX2_findBounds_35 : decode cX2_findBounds 35 = .ok (.ifCond .eq 30, 3) := by decide +kernel
theorem dX2_findBounds_38 : decode cX2_findBounds 38 = .ok (.aload_n 2, 1) := by decide +kernel
theorem dX2_findBounds_39 : decode cX2_findBounds 39 = .ok (.getfield 73, 3) := by decide +kernel
theorem dX2_findBounds_42 : decode cX2_findBounds 42 = .ok (.iload_n 3, 1) := by decide +kernel
theorem dX2_findBounds_43 : decode cX2_findBounds 43 = .ok (.bipush 97, 2) := by decide +kernel
theorem dX2_findBounds_45 : decode cX2_findBounds 45 = .ok (.isub, 1) := by decide +kernel
theorem dX2_findBounds_46 : decode cX2_findBounds 46 = .ok (.aaload, 1) := by decide +kernel
theorem dX2_findBounds_47 : decode cX2_findBounds 47 = .ok (.astore 4, 2) := by decide +kernel
theorem dX2_findBounds_49 : decode cX2_findBounds 49 = .ok (.aload_n 0, 1) := by decide +kernel
theorem dX2_findBounds_50 : decode cX2_findBounds 50 = .ok (.iload_n 1, 1) := by decide +kernel
theorem dX2_findBounds_51 : decode cX2_findBounds 51 = .ok (.aload 4, 2) := by decide +kernel
theorem dX2_findBounds_53 : decode cX2_findBounds 53 = .ok (.getfield 114, 3) := by decide +kernel
theorem dX2_findBounds_56 : decode cX2_findBounds 56 = .ok (.aload 4, 2) := by decide +kernel
theorem dX2_findBounds_58 : decode cX2_findBounds 58 = .ok (.getfield 117, 3) := by decide +kernel
theorem dX2_findBounds_61 : decode cX2_findBounds 61 = .ok (.invokevirtual 110, 3) := by decide +kernel
theorem dX2_findBounds_64 : decode cX2_findBounds 64 = .ok (.return_, 1) := by decide +kernel
theorem dX2_findBounds_65 : decode cX2_findBounds 65 = .ok (.aload_n 0, 1) := by decide +kernel
theorem dX2_findBounds_66 : decode cX2_findBounds 66 = .ok (.getfield 19, 3) := by decide +kernel
theorem dX2_findBounds_69 : decode cX2_findBounds 69 = .ok (.iload_n 1, 1) := by decide +kernel
theorem dX2_findBounds_70 : decode cX2_findBounds 70 = .ok (.iconst 1, 1) := by decide +kernel
theorem dX2_findBounds_71 : decode cX2_findBounds 71 = .ok (.iadd, 1) := by decide +kernel
theorem dX2_findBounds_72 : decode cX2_findBounds 72 = .ok (.invokestatic 48, 3) := by decide +kernel
theorem dX2_findBounds_75 : decode cX2_findBounds 75 = .ok (.istore 4, 2) := by decide +kernel
theorem dX2_findBounds_77 : decode cX2_findBounds 77 = .ok (.aload_n 0, 1) := by decide +kernel
theorem dX2_findBounds_78 : decode cX2_findBounds 78 = .ok (.getfield 22, 3) := by decide +kernel
theorem dX2_findBounds_81 : decode cX2_findBounds 81 = .ok (.iload_n 1, 1) := by decide +kernel
theorem dX2_findBounds_82 : decode cX2_findBounds 82 = .ok (.iconst 1, 1) := by decide +kernel
theorem dX2_findBounds_83 : decode cX2_findBounds 83 = .ok (.iadd, 1) := by decide +kernel
theorem dX2_findBounds_84 : decode cX2_findBounds 84 = .ok (.invokestatic 48, 3) := by decide +kernel
theorem dX2_findBounds_87 : decode cX2_findBounds 87 = .ok (.istore 5, 2) := by decide +kernel
theorem dX2_findBounds_89 : decode cX2_findBounds 89 = .ok (.iload_n 3, 1) := by decide +kernel
theorem dX2_findBounds_90 : decode cX2_findBounds 90 = .ok (.lookupswitch 140 #[(37, 84), (42, 123), (43, 105), (45, 105), (121, 72), (126, 58)], 58) := by decide +kernel
theorem dX2_findBounds_148 : decode cX2_findBounds 148 = .ok (.aload_n 0, 1) := by decide +kernel
theorem dX2_findBounds_149 : decode cX2_findBounds 149 = .ok (.iload_n 1, 1) := by decide +kernel
theorem dX2_findBounds_150 : decode cX2_findBounds 150 = .ok (.iload 5, 2) := by decide +kernel
theorem dX2_findBounds_152 : decode cX2_findBounds 152 = .ok (.ineg, 1) := by decide +kernel
theorem dX2_findBounds_153 : decode cX2_findBounds 153 = .ok (.iload 4, 2) := by decide +kernel
theorem dX2_findBounds_155 : decode cX2_findBounds 155 = .ok (.ineg, 1) := by decide +kernel
theorem dX2_findBounds_156 : decode cX2_findBounds 156 = .ok (.invokevirtual 110, 3) := by decide +kernel
theorem dX2_findBounds_159 : decode cX2_findBounds 159 = .ok (.goto 94, 3) := by decide +kernel
theorem dX2_findBounds_162 : decode cX2_findBounds 162 = .ok (.aload_n 0, 1) := by decide +kernel
theorem dX2_findBounds_163 : decode cX2_findBounds 163 = .ok (.iload_n 1, 1) := by decide +kernel
theorem dX2_findBounds_164 : decode cX2_findBounds 164 = .ok (.iload 4, 2) := by decide +kernel
theorem dX2_findBounds_166 : decode cX2_findBounds 166 = .ok (.iload 5, 2) := by decide +kernel
theorem dX2_findBounds_168 : decode cX2_findBounds 168 = .ok (.invokevirtual 120, 3) := by decide +kernel
theorem dX2_findBounds_171 : decode cX2_findBounds 171 = .ok (.goto 82, 3) := by decide +kernel
theorem dX2_findBounds_174 : decode cX2_findBounds 174 = .ok (.aload_n 0, 1) := by decide +kernel
theorem dX2_findBounds_175 : decode cX2_findBounds 175 = .ok (.iload_n 1, 1) := by decide +kernel
theorem dX2_findBounds_176 : decode cX2_findBounds 176 = .ok (.iload 4, 2) := by decide +kernel
theorem dX2_findBounds_178 : decode cX2_findBounds 178 = .ok (.iload 5, 2) := by decide +kernel
theorem dX2_findBounds_180 : decode cX2_findBounds 180 = .ok (.aload_n 0, 1) := by decide +kernel
theorem dX2_findBounds_181 : decode cX2_findBounds 181 = .ok (.getfield 9, 3) := by decide +kernel
theorem dX2_findBounds_184 : decode cX2_findBounds 184 = .ok (.getfield 123, 3) := by decide +kernel
theorem dX2_findBounds_187 : decode cX2_findBounds 187 = .ok (.iload_n 1, 1) := by decide +kernel
theorem dX2_findBounds_188 : decode cX2_findBounds 188 = .ok (.iaload, 1) := by decide +kernel
theorem dX2_findBounds_189 : decode cX2_findBounds 189 = .ok (.invokevirtual 126, 3) := by decide +kernel
theorem dX2_findBounds_192 : decode cX2_findBounds 192 = .ok (.goto 61, 3) := by decide +kernel
theorem dX2_findBounds_195 : decode cX2_findBounds 195 = .ok (.aload_n 0, 1) := by decide +kernel
theorem dX2_findBounds_196 : decode cX2_findBounds 196 = .ok (.iload_n 1, 1) := by decide +kernel
theorem dX2_findBounds_197 : decode cX2_findBounds 197 = .ok (.iload_n 3, 1) := by decide +kernel
theorem dX2_findBounds_198 : decode cX2_findBounds 198 = .ok (.aload_n 0, 1) := by decide +kernel
theorem dX2_findBounds_199 : decode cX2_findBounds 199 = .ok (.getfield 9, 3) := by decide +kernel
theorem dX2_findBounds_202 : decode cX2_findBounds 202 = .ok (.getfield 55, 3) := by decide +kernel
theorem dX2_findBounds_205 : decode cX2_findBounds 205 = .ok (.iload_n 1, 1) := by decide +kernel
theorem dX2_findBounds_206 : decode cX2_findBounds 206 = .ok (.iaload, 1) := by decide +kernel
theorem dX2_findBounds_207 : decode cX2_findBounds 207 = .ok (.invokevirtual 130, 3) := by decide +kernel
theorem dX2_findBounds_210 : decode cX2_findBounds 210 = .ok (.goto 43, 3) := by decide +kernel
theorem dX2_findBounds_213 : decode cX2_findBounds 213 = .ok (.aload_n 0, 1) := by decide +kernel
theorem dX2_findBounds_214 : decode cX2_findBounds 214 = .ok (.iload_n 1, 1) := by decide +kernel
theorem dX2_findBounds_215 : decode cX2_findBounds 215 = .ok (.aload_n 0, 1) := by decide +kernel
theorem dX2_findBounds_216 : decode cX2_findBounds 216 = .ok (.getfield 9, 3) := by decide +kernel
theorem dX2_findBounds_219 : decode cX2_findBounds 219 = .ok (.getfield 55, 3) := by decide +kernel
theorem dX2_findBounds_222 : decode cX2_findBounds 222 = .ok (.iload_n 1, 1) := by decide +kernel
theorem dX2_findBounds_223 : decode cX2_findBounds 223 = .ok (.iaload, 1) := by decide +kernel
theorem dX2_findBounds_224 : decode cX2_findBounds 224 = .ok (.invokevirtual 133, 3) := by decide +kernel
theorem dX2_findBounds_227 : decode cX2_findBounds 227 = .ok (.goto 26, 3) := by decide +kernel
theorem dX2_findBounds_230 : decode cX2_findBounds 230 = .ok (.aload_n 0, 1) := by decide +kernel
theorem dX2_findBounds_231 : decode cX2_findBounds 231 = .ok (.iload_n 1, 1) := by decide +kernel
theorem dX2_findBounds_232 : decode cX2_findBounds 232 = .ok (.aload_n 0, 1) := by decide +kernel
theorem dX2_findBounds_233 : decode cX2_findBounds 233 = .ok (.getfield 9, 3) := by decide +kernel
theorem dX2_findBounds_236 : decode cX2_findBounds 236 = .ok (.getfield 123, 3) := by decide +kernel
theorem dX2_findBounds_239 : decode cX2_findBounds 239 = .ok (.iload_n 1, 1) := by decide +kernel
theorem dX2_findBounds_240 : decode cX2_findBounds 240 = .ok (.iaload, 1) := by decide +kernel
theorem dX2_findBounds_241 : decode cX2_findBounds 241 = .ok (.aload_n 0, 1) := by decide +kernel
theorem dX2_findBounds_242 : decode cX2_findBounds 242 = .ok (.getfield 9, 3) := by decide +kernel
theorem dX2_findBounds_245 : decode cX2_findBounds 245 = .ok (.getfield 123, 3) := by decide +kernel
theorem dX2_findBounds_248 : decode cX2_findBounds 248 = .ok (.iload_n 1, 1) := by decide +kernel
theorem dX2_findBounds_249 : decode cX2_findBounds 249 = .ok (.iaload, 1) := by decide +kernel
theorem dX2_findBounds_250 : decode cX2_findBounds 250 = .ok (.invokevirtual 110, 3) := by decide +kernel
theorem dX2_findBounds_253 : decode cX2_findBounds 253 = .ok (.return_, 1) := by decide +kernel
theorem dX2_sumBounds_0 : decode cX2_sumBounds 0 = .ok (.iload_n 2, 1) := by decide +kernel
theorem dX2_sumBounds_1 : decode cX2_sumBounds 1 = .ok (.bipush 43, 2) := by decide +kernel
theorem dX2_sumBounds_3 : decode cX2_sumBounds 3 = .ok (.if_icmp .ne 10, 3) := by decide +kernel
theorem dX2_sumBounds_6 : decode cX2_sumBounds 6 = .ok (.aload_n 0, 1) := by decide +kernel
theorem dX2_sumBounds_7 : decode cX2_sumBounds 7 = .ok (.getfield 19, 3) := by decide +kernel
theorem dX2_sumBounds_10 : decode cX2_sumBounds 10 = .ok (.goto 7, 3) := by decide +kernel
theorem dX2_sumBounds_13 : decode cX2_sumBounds 13 = .ok (.aload_n 0, 1) := by decide +kernel
theorem dX2_sumBounds_14 : decode cX2_sumBounds 14 = .ok (.getfield 22, 3) := by decide +kernel
theorem dX2_sumBounds_17 : decode cX2_sumBounds 17 = .ok (.iload_n 3, 1) := by decide +kernel
theorem dX2_sumBounds_18 : decode cX2_sumBounds 18 = .ok (.invokestatic 48, 3) := by decide +kernel
theorem dX2_sumBounds_21 : decode cX2_sumBounds 21 = .ok (.istore 4, 2) := by decide +kernel
theorem dX2_sumBounds_23 : decode cX2_sumBounds 23 = .ok (.iload_n 2, 1) := by decide +kernel
theorem dX2_sumBounds_24 : decode cX2_sumBounds 24 = .ok (.bipush 43, 2) := by decide +kernel
theorem dX2_sumBounds_26 : decode cX2_sumBounds 26 = .ok (.if_icmp .ne 10, 3) := by decide +kernel
theorem dX2_sumBounds_29 : decode cX2_sumBounds 29 = .ok (.aload_n 0, 1) := by decide +kernel
theorem dX2_sumBounds_30 : decode cX2_sumBounds 30 = .ok (.getfield 22, 3) := by decide +kernel
theorem dX2_sumBounds_33 : decode cX2_sumBounds 33 = .ok (.goto 7, 3) := by decide +kernel
theorem dX2_sumBounds_36 : decode cX2_sumBounds 36 = .ok (.aload_n 0, 1) := by decide +kernel
theorem dX2_sumBounds_37 : decode cX2_sumBounds 37 = .ok (.getfield 19, 3) := by decide +kernel
theorem dX2_sumBounds_40 : decode cX2_sumBounds 40 = .ok (.iload_n 3, 1) := by decide +kernel
theorem dX2_sumBounds_41 : decode cX2_sumBounds 41 = .ok (.invokestatic 48, 3) := by decide +kernel
theorem dX2_sumBounds_44 : decode cX2_sumBounds 44 = .ok (.istore 5, 2) := by decide +kernel
theorem dX2_sumBounds_46 : decode cX2_sumBounds 46 = .ok (.aload_n 0, 1) := by decide +kernel
theorem dX2_sumBounds_47 : decode cX2_sumBounds 47 = .ok (.iload_n 1, 1) := by decide +kernel
theorem dX2_sumBounds_48 : decode cX2_sumBounds 48 = .ok (.iload_n 2, 1) := by decide +kernel
theorem dX2_sumBounds_49 : decode cX2_sumBounds 49 = .ok (.aload_n 0, 1) := by decide +kernel
theorem dX2_sumBounds_50 : decode cX2_sumBounds 50 = .ok (.getfield 19, 3) := by decide +kernel
theorem dX2_sumBounds_53 : decode cX2_sumBounds 53 = .ok (.iload_n 1, 1) := by decide +kernel
theorem dX2_sumBounds_54 : decode cX2_sumBounds 54 = .ok (.iconst 1, 1) := by decide +kernel
theorem dX2_sumBounds_55 : decode cX2_sumBounds 55 = .ok (.iadd, 1) := by decide +kernel
theorem dX2_sumBounds_56 : decode cX2_sumBounds 56 = .ok (.invokestatic 48, 3) := by decide +kernel
theorem dX2_sumBounds_59 : decode cX2_sumBounds 59 = .ok (.iload 4, 2) := by decide +kernel
theorem dX2_sumBounds_61 : decode cX2_sumBounds 61 = .ok (.invokestatic 137, 3) := by decide +kernel
theorem dX2_sumBounds_64 : decode cX2_sumBounds 64 = .ok (.iload_n 2, 1) := by decide +kernel
theorem dX2_sumBounds_65 : decode cX2_sumBounds 65 = .ok (.aload_n 0, 1) := by decide +kernel
theorem dX2_sumBounds_66 : decode cX2_sumBounds 66 = .ok (.getfield 22, 3) := by decide +kernel
theorem dX2_sumBounds_69 : decode cX2_sumBounds 69 = .ok (.iload_n 1, 1) := by decide +kernel
theorem dX2_sumBounds_70 : decode cX2_sumBounds 70 = .ok (.iconst 1, 1) := by decide +kernel
theorem dX2_sumBounds_71 : decode cX2_sumBounds 71 = .ok (.iadd, 1) := by decide +kernel
theorem dX2_sumBounds_72 : decode cX2_sumBounds 72 = .ok (.invokestatic 48, 3) := by decide +kernel
theorem dX2_sumBounds_75 : decode cX2_sumBounds 75 = .ok (.iload 5, 2) := by decide +kernel
theorem dX2_sumBounds_77 : decode cX2_sumBounds 77 = .ok (.invokestatic 137, 3) := by decide +kernel
theorem dX2_sumBounds_80 : decode cX2_sumBounds 80 = .ok (.invokevirtual 110, 3) := by decide +kernel
theorem dX2_sumBounds_83 : decode cX2_sumBounds 83 = .ok (.return_, 1) := by decide +kernel
theorem dX2_productBounds_0 : decode cX2_productBounds 0 = .ok (.aload_n 0, 1) := by decide +kernel
theorem dX2_productBounds_1 : decode cX2_productBounds 1 = .ok (.getfield 19, 3) := by decide +kernel
theorem dX2_productBounds_4 : decode cX2_productBounds 4 = .ok (.iload_n 1, 1) := by decide +kernel
theorem dX2_productBounds_5 : decode cX2_productBounds 5 = .ok (.iconst 1, 1) := by decide +kernel
theorem dX2_productBounds_6 : decode cX2_productBounds 6 = .ok (.iadd, 1) := by decide +kernel
theorem dX2_productBounds_7 : decode cX2_productBounds 7 = .ok (.invokestatic 48, 3) := by decide +kernel
theorem dX2_productBounds_10 : decode cX2_productBounds 10 = .ok (.istore_n 3, 1) := by decide +kernel
theorem dX2_productBounds_11 : decode cX2_productBounds 11 = .ok (.aload_n 0, 1) := by decide +kernel
theorem dX2_productBounds_12 : decode cX2_productBounds 12 = .ok (.getfield 22, 3) := by decide +kernel
theorem dX2_productBounds_15 : decode cX2_productBounds 15 = .ok (.iload_n 1, 1) := by decide +kernel
theorem dX2_productBounds_16 : decode cX2_productBounds 16 = .ok (.iconst 1, 1) := by decide +kernel
theorem dX2_productBounds_17 : decode cX2_productBounds 17 = .ok (.iadd, 1) := by decide +kernel
theorem dX2_productBounds_18 : decode cX2_productBounds 18 = .ok (.invokestatic 48, 3) := by decide +kernel
theorem dX2_productBounds_21 : decode cX2_productBounds 21 = .ok (.istore 4, 2) := by decide +kernel
theorem dX2_productBounds_23 : decode cX2_productBounds 23 = .ok (.bipush 42, 2) := by decide +kernel
theorem dX2_productBounds_25 : decode cX2_productBounds 25 = .ok (.iload_n 3, 1) := by decide +kernel
theorem dX2_productBounds_26 : decode cX2_productBounds 26 = .ok (.aload_n 0, 1) := by decide +kernel
theorem dX2_productBounds_27 : decode cX2_productBounds 27 = .ok (.getfield 19, 3) := by decide +kernel
theorem dX2_productBounds_30 : decode cX2_productBounds 30 = .ok (.iload_n 2, 1) := by decide +kernel
theorem dX2_productBounds_31 : decode cX2_productBounds 31 = .ok (.invokestatic 48, 3) := by decide +kernel
theorem dX2_productBounds_34 : decode cX2_productBounds 34 = .ok (.invokestatic 137, 3) := by decide +kernel
theorem dX2_productBounds_37 : decode cX2_productBounds 37 = .ok (.istore 5, 2) := by decide +kernel
theorem dX2_productBounds_39 : decode cX2_productBounds 39 = .ok (.bipush 42, 2) := by decide +kernel
theorem dX2_productBounds_41 : decode cX2_productBounds 41 = .ok (.iload_n 3, 1) := by decide +kernel
theorem dX2_productBounds_42 : decode cX2_productBounds 42 = .ok (.aload_n 0, 1) := by decide +kernel
theorem dX2_productBounds_43 : decode cX2_productBounds 43 = .ok (.getfield 22, 3) := by decide +kernel
theorem dX2_productBounds_46 : decode cX2_productBounds 46 = .ok (.iload_n 2, 1) := by decide +kernel
theorem dX2_productBounds_47 : decode cX2_productBounds 47 = .ok (.invokestatic 48, 3) := by decide +kernel
theorem dX2_productBounds_50 : decode cX2_productBounds 50 = .ok (.invokestatic 137, 3) := by decide +kernel
theorem dX2_productBounds_53 : decode cX2_productBounds 53 = .ok (.istore 6, 2) := by decide +kernel
theorem dX2_productBounds_55 : decode cX2_productBounds 55 = .ok (.bipush 42, 2) := by decide +kernel
theorem dX2_productBounds_57 : decode cX2_productBounds 57 = .ok (.iload 4, 2) := by decide +kernel
theorem dX2_productBounds_59 : decode cX2_productBounds 59 = .ok (.aload_n 0, 1) := by decide +kernel
theorem dX2_productBounds_60 : decode cX2_productBounds 60 = .ok (.getfield 19, 3) := by decide +kernel
theorem dX2_productBounds_63 : decode cX2_productBounds 63 = .ok (.iload_n 2, 1) := by decide +kernel
theorem dX2_productBounds_64 : decode cX2_productBounds 64 = .ok (.invokestatic 48, 3) := by decide +kernel
theorem dX2_productBounds_67 : decode cX2_productBounds 67 = .ok (.invokestatic 137, 3) := by decide +kernel
theorem dX2_productBounds_70 : decode cX2_productBounds 70 = .ok (.istore 7, 2) := by decide +kernel
theorem dX2_productBounds_72 : decode cX2_productBounds 72 = .ok (.bipush 42, 2) := by decide +kernel
theorem dX2_productBounds_74 : decode cX2_productBounds 74 = .ok (.iload 4, 2) := by decide +kernel
theorem dX2_productBounds_76 : decode cX2_productBounds 76 = .ok (.aload_n 0, 1) := by decide +kernel
theorem dX2_productBounds_77 : decode cX2_productBounds 77 = .ok (.getfield 22, 3) := by decide +kernel
theorem dX2_productBounds_80 : decode cX2_productBounds 80 = .ok (.iload_n 2, 1) := by decide +kernel
theorem dX2_productBounds_81 : decode cX2_productBounds 81 = .ok (.invokestatic 48, 3) := by decide +kernel
theorem dX2_productBounds_84 : decode cX2_productBounds 84 = .ok (.invokestatic 137, 3) := by decide +kernel
theorem dX2_productBounds_87 : decode cX2_productBounds 87 = .ok (.istore 8, 2) := by decide +kernel
theorem dX2_productBounds_89 : decode cX2_productBounds 89 = .ok (.iload 5, 2) := by decide +kernel
theorem dX2_productBounds_91 : decode cX2_productBounds 91 = .ok (.iload 6, 2) := by decide +kernel
theorem dX2_productBounds_93 : decode cX2_productBounds 93 = .ok (.invokestatic 140, 3) := by decide +kernel
theorem dX2_productBounds_96 : decode cX2_productBounds 96 = .ok (.iload 7, 2) := by decide +kernel
theorem dX2_productBounds_98 : decode cX2_productBounds 98 = .ok (.iload 8, 2) := by decide +kernel
theorem dX2_productBounds_100 : decode cX2_productBounds 100 = .ok (.invokestatic 140, 3) := by decide +kernel
theorem dX2_productBounds_103 : decode cX2_productBounds 103 = .ok (.invokestatic 140, 3) := by decide +kernel
theorem dX2_productBounds_106 : decode cX2_productBounds 106 = .ok (.istore 9, 2) := by decide +kernel
theorem dX2_productBounds_108 : decode cX2_productBounds 108 = .ok (.iload 5, 2) := by decide +kernel
theorem dX2_productBounds_110 : decode cX2_productBounds 110 = .ok (.iload 6, 2) := by decide +kernel
theorem dX2_productBounds_112 : decode cX2_productBounds 112 = .ok (.invokestatic 145, 3) := by decide +kernel
theorem dX2_productBounds_115 : decode cX2_productBounds 115 = .ok (.iload 7, 2) := by decide +kernel
theorem dX2_productBounds_117 : decode cX2_productBounds 117 = .ok (.iload 8, 2) := by decide +kernel
theorem dX2_productBounds_119 : decode cX2_productBounds 119 = .ok (.invokestatic 145, 3) := by decide +kernel
theorem dX2_productBounds_122 : decode cX2_productBounds 122 = .ok (.invokestatic 145, 3) := by decide +kernel
theorem dX2_productBounds_125 : decode cX2_productBounds 125 = .ok (.istore 10, 2) := by decide +kernel
theorem dX2_productBounds_127 : decode cX2_productBounds 127 = .ok (.aload_n 0, 1) := by decide +kernel
theorem dX2_productBounds_128 : decode cX2_productBounds 128 = .ok (.iload_n 1, 1) := by decide +kernel
theorem dX2_productBounds_129 : decode cX2_productBounds 129 = .ok (.iload 9, 2) := by decide +kernel
theorem dX2_productBounds_131 : decode cX2_productBounds 131 = .ok (.iload 10, 2) := by decide +kernel
theorem dX2_productBounds_133 : decode cX2_productBounds 133 = .ok (.invokevirtual 110, 3) := by decide +kernel
theorem dX2_productBounds_136 : decode cX2_productBounds 136 = .ok (.return_, 1) := by decide +kernel
theorem dX2_byteBounds_0 : decode cX2_byteBounds 0 = .ok (.iload_n 2, 1) := by decide +kernel
theorem dX2_byteBounds_1 : decode cX2_byteBounds 1 = .ok (.i2b, 1) := by decide +kernel
theorem dX2_byteBounds_2 : decode cX2_byteBounds 2 = .ok (.istore 4, 2) := by decide +kernel
theorem dX2_byteBounds_4 : decode cX2_byteBounds 4 = .ok (.iload_n 3, 1) := by decide +kernel
theorem dX2_byteBounds_5 : decode cX2_byteBounds 5 = .ok (.i2b, 1) := by decide +kernel
theorem dX2_byteBounds_6 : decode cX2_byteBounds 6 = .ok (.istore 5, 2) := by decide +kernel
theorem dX2_byteBounds_8 : decode cX2_byteBounds 8 = .ok (.iload_n 3, 1) := by decide +kernel
theorem dX2_byteBounds_9 : decode cX2_byteBounds 9 = .ok (.iload_n 2, 1) := by decide +kernel
theorem dX2_byteBounds_10 : decode cX2_byteBounds 10 = .ok (.isub, 1) := by decide +kernel
theorem dX2_byteBounds_11 : decode cX2_byteBounds 11 = .ok (.sipush 256, 3) := by decide +kernel
theorem dX2_byteBounds_14 : decode cX2_byteBounds 14 = .ok (.if_icmp .ge 22, 3) := by decide +kernel
theorem dX2_byteBounds_17 : decode cX2_byteBounds 17 = .ok (.iload 4, 2) := by decide +kernel
theorem dX2_byteBounds_19 : decode cX2_byteBounds 19 = .ok (.iload 5, 2) := by decide +kernel
theorem dX2_byteBounds_21 : decode cX2_byteBounds 21 = .ok (.if_icmp .gt 15, 3) := by decide +kernel
theorem dX2_byteBounds_24 : decode cX2_byteBounds 24 = .ok (.aload_n 0, 1) := by decide +kernel
theorem dX2_byteBounds_25 : decode cX2_byteBounds 25 = .ok (.iload_n 1, 1) := by decide +kernel
theorem dX2_byteBounds_26 : decode cX2_byteBounds 26 = .ok (.iload 4, 2) := by decide +kernel
theorem dX2_byteBounds_28 : decode cX2_byteBounds 28 = .ok (.iload 5, 2) := by decide +kernel
theorem dX2_byteBounds_30 : decode cX2_byteBounds 30 = .ok (.invokevirtual 110, 3) := by decide +kernel
theorem dX2_byteBounds_33 : decode cX2_byteBounds 33 = .ok (.goto 12, 3) := by decide +kernel
theorem dX2_byteBounds_36 : decode cX2_byteBounds 36 = .ok (.aload_n 0, 1) := by decide +kernel
theorem dX2_byteBounds_37 : decode cX2_byteBounds 37 = .ok (.iload_n 1, 1) := by decide +kernel
theorem dX2_byteBounds_38 : decode cX2_byteBounds 38 = .ok (.bipush (-128), 2) := by decide +kernel
theorem dX2_byteBounds_40 : decode cX2_byteBounds 40 = .ok (.bipush 127, 2) := by decide +kernel
theorem dX2_byteBounds_42 : decode cX2_byteBounds 42 = .ok (.invokevirtual 110, 3) := by decide +kernel
theorem dX2_byteBounds_45 : decode cX2_byteBounds 45 = .ok (.return_, 1) := by decide +kernel
theorem dX2_leftOverBounds_0 : decode cX2_leftOverBounds 0 = .ok (.iload 4, 2) := by decide +kernel
theorem dX2_leftOverBounds_2 : decode cX2_leftOverBounds 2 = .ok (.iconst 1, 1) := by decide +kernel
theorem dX2_leftOverBounds_3 : decode cX2_leftOverBounds 3 = .ok (.if_icmp .ge 4, 3) := by decide +kernel
theorem dX2_leftOverBounds_6 : decode cX2_leftOverBounds 6 = .ok (.return_, 1) := by decide +kernel
theorem dX2_leftOverBounds_7 : decode cX2_leftOverBounds 7 = .ok (.iload_n 2, 1) := by decide +kernel
theorem dX2_leftOverBounds_8 : decode cX2_leftOverBounds 8 = .ok (.ifCond .ge 11, 3) := by decide +kernel
theorem dX2_leftOverBounds_11 : decode cX2_leftOverBounds 11 = .ok (.iload_n 3, 1) := by decide +kernel
theorem dX2_leftOverBounds_12 : decode cX2_leftOverBounds 12 = .ok (.ifCond .le 7, 3) := by decide +kernel
theorem dX2_leftOverBounds_15 : decode cX2_leftOverBounds 15 = .ok (.iconst 1, 1) := by decide +kernel
theorem dX2_leftOverBounds_16 : decode cX2_leftOverBounds 16 = .ok (.goto 4, 3) := by decide +kernel
theorem dX2_leftOverBounds_19 : decode cX2_leftOverBounds 19 = .ok (.iconst 0, 1) := by decide +kernel
theorem dX2_leftOverBounds_20 : decode cX2_leftOverBounds 20 = .ok (.istore 5, 2) := by decide +kernel
theorem dX2_leftOverBounds_22 : decode cX2_leftOverBounds 22 = .ok (.iload_n 2, 1) := by decide +kernel
theorem dX2_leftOverBounds_23 : decode cX2_leftOverBounds 23 = .ok (.iload 4, 2) := by decide +kernel
theorem dX2_leftOverBounds_25 : decode cX2_leftOverBounds 25 = .ok (.idiv, 1) := by decide +kernel
theorem dX2_leftOverBounds_26 : decode cX2_leftOverBounds 26 = .ok (.iload_n 3, 1) := by decide +kernel
theorem dX2_leftOverBounds_27 : decode cX2_leftOverBounds 27 = .ok (.iload 4, 2) := by decide +kernel
theorem dX2_leftOverBounds_29 : decode cX2_leftOverBounds 29 = .ok (.idiv, 1) := by decide +kernel
theorem dX2_leftOverBounds_30 : decode cX2_leftOverBounds 30 = .ok (.if_icmp .ne 22, 3) := by decide +kernel
theorem dX2_leftOverBounds_33 : decode cX2_leftOverBounds 33 = .ok (.iload 5, 2) := by decide +kernel
theorem dX2_leftOverBounds_35 : decode cX2_leftOverBounds 35 = .ok (.ifCond .ne 17, 3) := by decide +kernel
theorem dX2_leftOverBounds_38 : decode cX2_leftOverBounds 38 = .ok (.aload_n 0, 1) := by decide +kernel
theorem dX2_leftOverBounds_39 : decode cX2_leftOverBounds 39 = .ok (.iload_n 1, 1) := by decide +kernel
theorem dX2_leftOverBounds_40 : decode cX2_leftOverBounds 40 = .ok (.iload_n 2, 1) := by decide +kernel
theorem dX2_leftOverBounds_41 : decode cX2_leftOverBounds 41 = .ok (.iload 4, 2) := by decide +kernel
theorem dX2_leftOverBounds_43 : decode cX2_leftOverBounds 43 = .ok (.irem, 1) := by decide +kernel
theorem dX2_leftOverBounds_44 : decode cX2_leftOverBounds 44 = .ok (.iload_n 3, 1) := by decide +kernel
theorem dX2_leftOverBounds_45 : decode cX2_leftOverBounds 45 = .ok (.iload 4, 2) := by decide +kernel
theorem dX2_leftOverBounds_47 : decode cX2_leftOverBounds 47 = .ok (.irem, 1) := by decide +kernel
theorem dX2_leftOverBounds_48 : decode cX2_leftOverBounds 48 = .ok (.invokevirtual 110, 3) := by decide +kernel
theorem dX2_leftOverBounds_51 : decode cX2_leftOverBounds 51 = .ok (.return_, 1) := by decide +kernel
theorem dX2_leftOverBounds_52 : decode cX2_leftOverBounds 52 = .ok (.iload_n 2, 1) := by decide +kernel
theorem dX2_leftOverBounds_53 : decode cX2_leftOverBounds 53 = .ok (.ifCond .lt 7, 3) := by decide +kernel
theorem dX2_leftOverBounds_56 : decode cX2_leftOverBounds 56 = .ok (.iconst 0, 1) := by decide +kernel
theorem dX2_leftOverBounds_57 : decode cX2_leftOverBounds 57 = .ok (.goto 11, 3) := by decide +kernel
theorem dX2_leftOverBounds_60 : decode cX2_leftOverBounds 60 = .ok (.iload_n 2, 1) := by decide +kernel
theorem dX2_leftOverBounds_61 : decode cX2_leftOverBounds 61 = .ok (.iconst 1, 1) := by decide +kernel
theorem dX2_leftOverBounds_62 : decode cX2_leftOverBounds 62 = .ok (.iload 4, 2) := by decide +kernel
theorem dX2_leftOverBounds_64 : decode cX2_leftOverBounds 64 = .ok (.isub, 1) := by decide +kernel
theorem dX2_leftOverBounds_65 : decode cX2_leftOverBounds 65 = .ok (.invokestatic 145, 3) := by decide +kernel
theorem dX2_leftOverBounds_68 : decode cX2_leftOverBounds 68 = .ok (.istore 6, 2) := by decide +kernel
theorem dX2_leftOverBounds_70 : decode cX2_leftOverBounds 70 = .ok (.iload_n 3, 1) := by decide +kernel
theorem dX2_leftOverBounds_71 : decode cX2_leftOverBounds 71 = .ok (.ifCond .gt 7, 3) := by decide +kernel
theorem dX2_leftOverBounds_74 : decode cX2_leftOverBounds 74 = .ok (.iconst 0, 1) := by decide +kernel
theorem dX2_leftOverBounds_75 : decode cX2_leftOverBounds 75 = .ok (.goto 11, 3) := by decide +kernel
theorem dX2_leftOverBounds_78 : decode cX2_leftOverBounds 78 = .ok (.iload_n 3, 1) := by decide +kernel
theorem dX2_leftOverBounds_79 : decode cX2_leftOverBounds 79 = .ok (.iload 4, 2) := by decide +kernel
theorem dX2_leftOverBounds_81 : decode cX2_leftOverBounds 81 = .ok (.iconst 1, 1) := by decide +kernel
theorem dX2_leftOverBounds_82 : decode cX2_leftOverBounds 82 = .ok (.isub, 1) := by decide +kernel
theorem dX2_leftOverBounds_83 : decode cX2_leftOverBounds 83 = .ok (.invokestatic 140, 3) := by decide +kernel
theorem dX2_leftOverBounds_86 : decode cX2_leftOverBounds 86 = .ok (.istore 7, 2) := by decide +kernel
theorem dX2_leftOverBounds_88 : decode cX2_leftOverBounds 88 = .ok (.aload_n 0, 1) := by decide +kernel
theorem dX2_leftOverBounds_89 : decode cX2_leftOverBounds 89 = .ok (.iload_n 1, 1) := by decide +kernel
theorem dX2_leftOverBounds_90 : decode cX2_leftOverBounds 90 = .ok (.iload 6, 2) := by decide +kernel
theorem dX2_leftOverBounds_92 : decode cX2_leftOverBounds 92 = .ok (.iload 7, 2) := by decide +kernel
theorem dX2_leftOverBounds_94 : decode cX2_leftOverBounds 94 = .ok (.invokevirtual 110, 3) := by decide +kernel
theorem dX2_leftOverBounds_97 : decode cX2_leftOverBounds 97 = .ok (.return_, 1) := by decide +kernel
theorem dX2_setBounds_0 : decode cX2_setBounds 0 = .ok (.aload_n 0, 1) := by decide +kernel
theorem dX2_setBounds_1 : decode cX2_setBounds 1 = .ok (.getfield 19, 3) := by decide +kernel
theorem dX2_setBounds_4 : decode cX2_setBounds 4 = .ok (.iload_n 1, 1) := by decide +kernel
theorem dX2_setBounds_5 : decode cX2_setBounds 5 = .ok (.iload_n 2, 1) := by decide +kernel
theorem dX2_setBounds_6 : decode cX2_setBounds 6 = .ok (.iastore, 1) := by decide +kernel
theorem dX2_setBounds_7 : decode cX2_setBounds 7 = .ok (.aload_n 0, 1) := by decide +kernel
theorem dX2_setBounds_8 : decode cX2_setBounds 8 = .ok (.getfield 22, 3) := by decide +kernel
theorem dX2_setBounds_11 : decode cX2_setBounds 11 = .ok (.iload_n 1, 1) := by decide +kernel
theorem dX2_setBounds_12 : decode cX2_setBounds 12 = .ok (.iload_n 3, 1) := by decide +kernel
theorem dX2_setBounds_13 : decode cX2_setBounds 13 = .ok (.iastore, 1) := by decide +kernel
theorem dX2_setBounds_14 : decode cX2_setBounds 14 = .ok (.return_, 1) := by decide +kernel
theorem dX3_init_0 : decode cX3_init 0 = .ok (.aload_n 0, 1) := by decide +kernel
theorem dX3_init_1 : decode cX3_init 1 = .ok (.invokespecial 3, 3) := by decide +kernel
theorem dX3_init_4 : decode cX3_init 4 = .ok (.aload_n 0, 1) := by decide +kernel
theorem dX3_init_5 : decode cX3_init 5 = .ok (.aload_n 1, 1) := by decide +kernel
theorem dX3_init_6 : decode cX3_init 6 = .ok (.putfield 9, 3) := by decide +kernel
theorem dX3_init_9 : decode cX3_init 9 = .ok (.aload_n 0, 1) := by decide +kernel
theorem dX3_init_10 : decode cX3_init 10 = .ok (.bipush 60, 2) := by decide +kernel
theorem dX3_init_12 : decode cX3_init 12 = .ok (.newarray .int, 2) := by decide +kernel
theorem dX3_init_14 : decode cX3_init 14 = .ok (.putfield 15, 3) := by decide +kernel
theorem dX3_init_17 : decode cX3_init 17 = .ok (.return_, 1) := by decide +kernel
theorem dX3_judge_0 : decode cX3_judge 0 = .ok (.aload_n 0, 1) := by decide +kernel
theorem dX3_judge_1 : decode cX3_judge 1 = .ok (.getfield 9, 3) := by decide +kernel
theorem dX3_judge_4 : decode cX3_judge 4 = .ok (.getfield 19, 3) := by decide +kernel
theorem dX3_judge_7 : decode cX3_judge 7 = .ok (.iconst 1, 1) := by decide +kernel
theorem dX3_judge_8 : decode cX3_judge 8 = .ok (.isub, 1) := by decide +kernel
theorem dX3_judge_9 : decode cX3_judge 9 = .ok (.istore_n 2, 1) := by decide +kernel
theorem dX3_judge_10 : decode cX3_judge 10 = .ok (.iload_n 2, 1) := by decide +kernel
theorem dX3_judge_11 : decode cX3_judge 11 = .ok (.ifCond .lt 62, 3) := by decide +kernel
theorem dX3_judge_14 : decode cX3_judge 14 = .ok (.aload_n 0, 1) := by decide +kernel
theorem dX3_judge_15 : decode cX3_judge 15 = .ok (.getfield 9, 3) := by decide +kernel
theorem dX3_judge_18 : decode cX3_judge 18 = .ok (.getfield 25, 3) := by decide +kernel
theorem dX3_judge_21 : decode cX3_judge 21 = .ok (.iload_n 2, 1) := by decide +kernel
theorem dX3_judge_22 : decode cX3_judge 22 = .ok (.iaload, 1) := by decide +kernel
theorem dX3_judge_23 : decode cX3_judge 23 = .ok (.iconst 1, 1) := by decide +kernel
theorem dX3_judge_24 : decode cX3_judge 24 = .ok (.if_icmp .ne 18, 3) := by decide +kernel
theorem dX3_judge_27 : decode cX3_judge 27 = .ok (.aload_n 0, 1) := by decide +kernel
theorem dX3_judge_28 : decode cX3_judge 28 = .ok (.getfield 15, 3) := by decide +kernel
theorem dX3_judge_31 : decode cX3_judge 31 = .ok (.iload_n 2, 1) := by decide +kernel
theorem dX3_judge_32 : decode cX3_judge 32 = .ok (.aload_n 0, 1) := by decide +kernel
theorem dX3_judge_33 : decode cX3_judge 33 = .ok (.iload_n 2, 1) := by decide +kernel
theorem dX3_judge_34 : decode cX3_judge 34 = .ok (.aload_n 1, 1) := by decide +kernel
theorem dX3_judge_35 : decode cX3_judge 35 = .ok (.invokevirtual 28, 3) := by decide +kernel
theorem dX3_judge_38 : decode cX3_judge 38 = .ok (.iastore, 1) := by decide +kernel
theorem dX3_judge_39 : decode cX3_judge 39 = .ok (.goto 28, 3) := by decide +kernel
theorem dX3_judge_42 : decode cX3_judge 42 = .ok (.aload_n 0, 1) := by decide +kernel
theorem dX3_judge_43 : decode cX3_judge 43 = .ok (.getfield 9, 3) := by decide +kernel
theorem dX3_judge_46 : decode cX3_judge 46 = .ok (.getfield 25, 3) := by decide +kernel
theorem dX3_judge_49 : decode cX3_judge 49 = .ok (.iload_n 2, 1) := by decide +kernel
theorem dX3_judge_50 : decode cX3_judge 50 = .ok (.iaload, 1) := by decide +kernel
theorem dX3_judge_51 : decode cX3_judge 51 = .ok (.iconst 2, 1) := by decide +kernel
theorem dX3_judge_52 : decode cX3_judge 52 = .ok (.if_icmp .ne 15, 3) := by decide +kernel
theorem dX3_judge_55 : decode cX3_judge 55 = .ok (.aload_n 0, 1) := by decide +kernel
theorem dX3_judge_56 : decode cX3_judge 56 = .ok (.getfield 15, 3) := by decide +kernel
theorem dX3_judge_59 : decode cX3_judge 59 = .ok (.iload_n 2, 1) := by decide +kernel
theorem dX3_judge_60 : decode cX3_judge 60 = .ok (.aload_n 0, 1) := by decide +kernel
theorem dX3_judge_61 : decode cX3_judge 61 = .ok (.iload_n 2, 1) := by decide +kernel
theorem dX3_judge_62 : decode cX3_judge 62 = .ok (.aload_n 1, 1) := by decide +kernel
theorem dX3_judge_63 : decode cX3_judge 63 = .ok (.invokevirtual 32, 3) := by decide +kernel
theorem dX3_judge_66 : decode cX3_judge 66 = .ok (.iastore, 1) := by decide +kernel
theorem dX3_judge_67 : decode cX3_judge 67 = .ok (.iinc 2 (-1), 3) := by decide +kernel
theorem dX3_judge_70 : decode cX3_judge 70 = .ok (.goto (-60), 3) := by decide +kernel
theorem dX3_judge_73 : decode cX3_judge 73 = .ok (.aload_n 0, 1) := by decide +kernel
theorem dX3_judge_74 : decode cX3_judge 74 = .ok (.getfield 15, 3) := by decide +kernel
theorem dX3_judge_77 : decode cX3_judge 77 = .ok (.iconst 0, 1) := by decide +kernel
theorem dX3_judge_78 : decode cX3_judge 78 = .ok (.iaload, 1) := by decide +kernel
theorem dX3_judge_79 : decode cX3_judge 79 = .ok (.ireturn, 1) := by decide +kernel
theorem dX3_truthAt_0 : decode cX3_truthAt 0 = .ok (.aload_n 0, 1) := by decide +kernel
theorem dX3_truthAt_1 : decode cX3_truthAt 1 = .ok (.getfield 9, 3) := by decide +kernel
theorem dX3_truthAt_4 : decode cX3_truthAt 4 = .ok (.getfield 35, 3) := by decide +kernel
theorem dX3_truthAt_7 : decode cX3_truthAt 7 = .ok (.iload_n 1, 1) := by decide +kernel
theorem dX3_truthAt_8 : decode cX3_truthAt 8 = .ok (.iaload, 1) := by decide +kernel
theorem dX3_truthAt_9 : decode cX3_truthAt 9 = .ok (.istore_n 3, 1) := by decide +kernel
theorem dX3_truthAt_10 : decode cX3_truthAt 10 = .ok (.iload_n 3, 1) := by decide +kernel
theorem dX3_truthAt_11 : decode cX3_truthAt 11 = .ok (.bipush 109, 2) := by decide +kernel
theorem dX3_truthAt_13 : decode cX3_truthAt 13 = .ok (.if_icmp .ne 39, 3) := by decide +kernel
theorem dX3_truthAt_16 : decode cX3_truthAt 16 = .ok (.aload_n 0, 1) := by decide +kernel
theorem dX3_truthAt_17 : decode cX3_truthAt 17 = .ok (.getfield 9, 3) := by decide +kernel
theorem dX3_truthAt_20 : decode cX3_truthAt 20 = .ok (.getfield 35, 3) := by decide +kernel
theorem dX3_truthAt_23 : decode cX3_truthAt 23 = .ok (.iload_n 1, 1) := by decide +kernel
theorem dX3_truthAt_24 : decode cX3_truthAt 24 = .ok (.iconst 1, 1) := by decide +kernel
theorem dX3_truthAt_25 : decode cX3_truthAt 25 = .ok (.iadd, 1) := by decide +kernel
theorem dX3_truthAt_26 : decode cX3_truthAt 26 = .ok (.invokestatic 38, 3) := by decide +kernel
theorem dX3_truthAt_29 : decode cX3_truthAt 29 = .ok (.istore 4, 2) := by decide +kernel
theorem dX3_truthAt_31 : decode cX3_truthAt 31 = .ok (.aload_n 2, 1) := by decide +kernel
theorem dX3_truthAt_32 : decode cX3_truthAt 32 = .ok (.iload 4, 2) := by decide +kernel
theorem dX3_truthAt_34 : decode cX3_truthAt 34 = .ok (.bipush 97, 2) := by decide +kernel
theorem dX3_truthAt_36 : decode cX3_truthAt 36 = .ok (.isub, 1) := by decide +kernel
theorem dX3_truthAt_37 : decode cX3_truthAt 37 = .ok (.invokestatic 38, 3) := by decide +kernel
theorem dX3_truthAt_40 : decode cX3_truthAt 40 = .ok (.sipush 1000, 3) := by decide +kernel
theorem dX3_truthAt_43 : decode cX3_truthAt 43 = .ok (.if_icmp .ne 7, 3) := by decide +kernel
theorem dX3_truthAt_46 : decode cX3_truthAt 46 = .ok (.iconst 1, 1) := by decide +kernel
theorem dX3_truthAt_47 : decode cX3_truthAt 47 = .ok (.goto 4, 3) := by decide +kernel
theorem dX3_truthAt_50 : decode cX3_truthAt 50 = .ok (.iconst 0, 1) := by decide +kernel
theorem dX3_truthAt_51 : decode cX3_truthAt 51 = .ok (.ireturn, 1) := by decide +kernel
theorem dX3_truthAt_52 : decode cX3_truthAt 52 = .ok (.aload_n 0, 1) := by decide +kernel
theorem dX3_truthAt_53 : decode cX3_truthAt 53 = .ok (.getfield 15, 3) := by decide +kernel
theorem dX3_truthAt_56 : decode cX3_truthAt 56 = .ok (.iload_n 1, 1) := by decide +kernel
theorem dX3_truthAt_57 : decode cX3_truthAt 57 = .ok (.iconst 1, 1) := by decide +kernel
theorem dX3_truthAt_58 : decode cX3_truthAt 58 = .ok (.iadd, 1) := by decide +kernel
theorem dX3_truthAt_59 : decode cX3_truthAt 59 = .ok (.invokestatic 38, 3) := by decide +kernel
theorem dX3_truthAt_62 : decode cX3_truthAt 62 = .ok (.istore 4, 2) := by decide +kernel
theorem dX3_truthAt_64 : decode cX3_truthAt 64 = .ok (.iload_n 3, 1) := by decide +kernel
theorem dX3_truthAt_65 : decode cX3_truthAt 65 = .ok (.bipush 33, 2) := by decide +kernel
theorem dX3_truthAt_67 : decode cX3_truthAt 67 = .ok (.if_icmp .ne 9, 3) := by decide +kernel
theorem dX3_truthAt_70 : decode cX3_truthAt 70 = .ok (.iload 4, 2) := by decide +kernel
theorem dX3_truthAt_72 : decode cX3_truthAt 72 = .ok (.invokestatic 42, 3) := by decide +kernel
theorem dX3_truthAt_75 : decode cX3_truthAt 75 = .ok (.ireturn, 1) := by decide +kernel
theorem dX3_truthAt_76 : decode cX3_truthAt 76 = .ok (.aload_n 0, 1) := by decide +kernel
theorem dX3_truthAt_77 : decode cX3_truthAt 77 = .ok (.getfield 15, 3) := by decide +kernel
theorem dX3_truthAt_80 : decode cX3_truthAt 80 = .ok (.aload_n 0, 1) := by decide +kernel
theorem dX3_truthAt_81 : decode cX3_truthAt 81 = .ok (.getfield 9, 3) := by decide +kernel
theorem dX3_truthAt_84 : decode cX3_truthAt 84 = .ok (.getfield 46, 3) := by decide +kernel
theorem dX3_truthAt_87 : decode cX3_truthAt 87 = .ok (.iload_n 1, 1) := by decide +kernel
theorem dX3_truthAt_88 : decode cX3_truthAt 88 = .ok (.iaload, 1) := by decide +kernel
theorem dX3_truthAt_89 : decode cX3_truthAt 89 = .ok (.invokestatic 38, 3) := by decide +kernel
theorem dX3_truthAt_92 : decode cX3_truthAt 92 = .ok (.istore 5, 2) := by decide +kernel
theorem dX3_truthAt_94 : decode cX3_truthAt 94 = .ok (.iload_n 3, 1) := by decide +kernel
theorem dX3_truthAt_95 : decode cX3_truthAt 95 = .ok (.bipush 38, 2) := by decide +kernel
theorem dX3_truthAt_97 : decode cX3_truthAt 97 = .ok (.if_icmp .ne 11, 3) := by decide +kernel
theorem dX3_truthAt_100 : decode cX3_truthAt 100 = .ok (.iload 4, 2) := by decide +kernel
theorem dX3_truthAt_102 : decode cX3_truthAt 102 = .ok (.iload 5, 2) := by decide +kernel
theorem dX3_truthAt_104 : decode cX3_truthAt 104 = .ok (.invokestatic 49, 3) := by decide +kernel
theorem dX3_truthAt_107 : decode cX3_truthAt 107 = .ok (.ireturn, 1) := by decide +kernel
theorem dX3_truthAt_108 : decode cX3_truthAt 108 = .ok (.iload_n 3, 1) := by decide +kernel
theorem dX3_truthAt_109 : decode cX3_truthAt 109 = .ok (.bipush 124, 2) := by decide +kernel
theorem dX3_truthAt_111 : decode cX3_truthAt 111 = .ok (.if_icmp .ne 11, 3) := by decide +kernel
theorem dX3_truthAt_114 : decode cX3_truthAt 114 = .ok (.iload 4, 2) := by decide +kernel
theorem dX3_truthAt_116 : decode cX3_truthAt 116 = .ok (.iload 5, 2) := by decide +kernel
theorem dX3_truthAt_118 : decode cX3_truthAt 118 = .ok (.invokestatic 53, 3) := by decide +kernel
theorem dX3_truthAt_121 : decode cX3_truthAt 121 = .ok (.ireturn, 1) := by decide +kernel
theorem dX3_truthAt_122 : decode cX3_truthAt 122 = .ok (.iload 4, 2) := by decide +kernel
theorem dX3_truthAt_124 : decode cX3_truthAt 124 = .ok (.ldc 56, 2) := by decide +kernel
theorem dX3_truthAt_126 : decode cX3_truthAt 126 = .ok (.if_icmp .eq 10, 3) := by decide +kernel
theorem dX3_truthAt_129 : decode cX3_truthAt 129 = .ok (.iload 5, 2) := by decide +kernel
theorem dX3_truthAt_131 : decode cX3_truthAt 131 = .ok (.ldc 56, 2) := by decide +kernel
theorem dX3_truthAt_133 : decode cX3_truthAt 133 = .ok (.if_icmp .ne 5, 3) := by decide +kernel
theorem dX3_truthAt_136 : decode cX3_truthAt 136 = .ok (.iconst 2, 1) := by decide +kernel
theorem dX3_truthAt_137 : decode cX3_truthAt 137 = .ok (.ireturn, 1) := by decide +kernel
theorem dX3_truthAt_138 : decode cX3_truthAt 138 = .ok (.iload_n 3, 1) := by decide +kernel
theorem dX3_truthAt_139 : decode cX3_truthAt 139 = .ok (.bipush 60, 2) := by decide +kernel
theorem dX3_truthAt_141 : decode cX3_truthAt 141 = .ok (.if_icmp .ne 18, 3) := by decide +kernel
theorem dX3_truthAt_144 : decode cX3_truthAt 144 = .ok (.iload 4, 2) := by decide +kernel
theorem dX3_truthAt_146 : decode cX3_truthAt 146 = .ok (.iload 5, 2) := by decide +kernel
theorem dX3_truthAt_148 : decode cX3_truthAt 148 = .ok (.if_icmp .ge 7, 3) := by decide +kernel
theorem dX3_truthAt_151 : decode cX3_truthAt 151 = .ok (.iconst 1, 1) := by decide +kernel
theorem dX3_truthAt_152 : decode cX3_truthAt 152 = .ok (.goto 19, 3) := by decide +kernel
theorem dX3_truthAt_155 : decode cX3_truthAt 155 = .ok (.iconst 0, 1) := by decide +kernel
theorem dX3_truthAt_156 : decode cX3_truthAt 156 = .ok (.goto 15, 3) := by decide +kernel
theorem dX3_truthAt_159 : decode cX3_truthAt 159 = .ok (.iload 4, 2) := by decide +kernel
theorem dX3_truthAt_161 : decode cX3_truthAt 161 = .ok (.iload 5, 2) := by decide +kernel
theorem dX3_truthAt_163 : decode cX3_truthAt 163 = .ok (.if_icmp .ne 7, 3) := by decide +kernel
theorem dX3_truthAt_166 : decode cX3_truthAt 166 = .ok (.iconst 1, 1) := by decide +kernel
theorem dX3_truthAt_167 : decode cX3_truthAt 167 = .ok (.goto 4, 3) := by decide +kernel
theorem dX3_truthAt_170 : decode cX3_truthAt 170 = .ok (.iconst 0, 1) := by decide +kernel
theorem dX3_truthAt_171 : decode cX3_truthAt 171 = .ok (.istore 6, 2) := by decide +kernel
theorem dX3_truthAt_173 : decode cX3_truthAt 173 = .ok (.iload 6, 2) := by decide +kernel
theorem dX3_truthAt_175 : decode cX3_truthAt 175 = .ok (.ifCond .eq 7, 3) := by decide +kernel
theorem dX3_truthAt_178 : decode cX3_truthAt 178 = .ok (.iconst 1, 1) := by decide +kernel
theorem dX3_truthAt_179 : decode cX3_truthAt 179 = .ok (.goto 4, 3) := by decide +kernel
theorem dX3_truthAt_182 : decode cX3_truthAt 182 = .ok (.iconst 0, 1) := by decide +kernel
theorem dX3_truthAt_183 : decode cX3_truthAt 183 = .ok (.ireturn, 1) := by decide +kernel
theorem dX3_termAt_0 : decode cX3_termAt 0 = .ok (.aload_n 0, 1) := by decide +kernel
theorem dX3_termAt_1 : decode cX3_termAt 1 = .ok (.getfield 9, 3) := by decide +kernel
theorem dX3_termAt_4 : decode cX3_termAt 4 = .ok (.getfield 35, 3) := by decide +kernel
theorem dX3_termAt_7 : decode cX3_termAt 7 = .ok (.iload_n 1, 1) := by decide +kernel
theorem dX3_termAt_8 : decode cX3_termAt 8 = .ok (.iaload, 1) := by decide +kernel
theorem dX3_termAt_9 : decode cX3_termAt 9 = .ok (.istore_n 3, 1) := by decide +kernel
theorem dX3_termAt_10 : decode cX3_termAt 10 = .ok (.iload_n 3, 1) := by decide +kernel
theorem dX3_termAt_11 : decode cX3_termAt 11 = .ok (.invokestatic 57, 3) := by decide +kernel
theorem dX3_termAt_14 : decode cX3_termAt 14 = .ok (.ifCond .eq 29, 3) := by decide +kernel
theorem dX3_termAt_17 : decode cX3_termAt 17 = .ok (.aload_n 2, 1) := by decide +kernel
theorem dX3_termAt_18 : decode cX3_termAt 18 = .ok (.iload_n 3, 1) := by decide +kernel
theorem dX3_termAt_19 : decode cX3_termAt 19 = .ok (.bipush 97, 2) := by decide +kernel
theorem dX3_termAt_21 : decode cX3_termAt 21 = .ok (.isub, 1) := by decide +kernel
theorem dX3_termAt_22 : decode cX3_termAt 22 = .ok (.invokestatic 38, 3) := by decide +kernel
theorem dX3_termAt_25 : decode cX3_termAt 25 = .ok (.istore 4, 2) := by decide +kernel
theorem dX3_termAt_27 : decode cX3_termAt 27 = .ok (.iload 4, 2) := by decide +kernel
theorem dX3_termAt_29 : decode cX3_termAt 29 = .ok (.sipush 1000, 3) := by decide +kernel
theorem dX3_termAt_32 : decode cX3_termAt 32 = .ok (.if_icmp .ne 8, 3) := by decide +kernel
theorem dX3_termAt_35 : decode cX3_termAt 35 = .ok (.ldc 56, 2) := by decide +kernel
theorem dX3_termAt_37 : decode cX3_termAt 37 = .ok (.goto 5, 3) := by decide +kernel
theorem dX3_termAt_40 : decode cX3_termAt 40 = .ok (.iload 4, 2) := by decide +kernel
theorem dX3_termAt_42 : decode cX3_termAt 42 = .ok (.ireturn, 1) := by decide +kernel
theorem dX3_termAt_43 : decode cX3_termAt 43 = .ok (.iload_n 3, 1) := by decide +kernel
theorem dX3_termAt_44 : decode cX3_termAt 44 = .ok (.invokestatic 61, 3) := by decide +kernel
theorem dX3_termAt_47 : decode cX3_termAt 47 = .ok (.ifCond .ne 9, 3) := by decide +kernel
theorem dX3_termAt_50 : decode cX3_termAt 50 = .ok (.iload_n 3, 1) := by decide +kernel
theorem dX3_termAt_51 : decode cX3_termAt 51 = .ok (.bipush 35, 2) := by decide +kernel
theorem dX3_termAt_53 : decode cX3_termAt 53 = .ok (.if_icmp .ne 13, 3) := by decide +kernel
theorem dX3_termAt_56 : decode cX3_termAt 56 = .ok (.aload_n 0, 1) := by decide +kernel
theorem dX3_termAt_57 : decode cX3_termAt 57 = .ok (.getfield 9, 3) := by decide +kernel
theorem dX3_termAt_60 : decode cX3_termAt 60 = .ok (.getfield 64, 3) := by decide +kernel
theorem dX3_termAt_63 : decode cX3_termAt 63 = .ok (.iload_n 1, 1) := by decide +kernel
theorem dX3_termAt_64 : decode cX3_termAt 64 = .ok (.iaload, 1) := by decide +kernel
theorem dX3_termAt_65 : decode cX3_termAt 65 = .ok (.ireturn, 1) := by decide +kernel
theorem dX3_termAt_66 : decode cX3_termAt 66 = .ok (.aload_n 0, 1) := by decide +kernel
theorem dX3_termAt_67 : decode cX3_termAt 67 = .ok (.getfield 15, 3) := by decide +kernel
theorem dX3_termAt_70 : decode cX3_termAt 70 = .ok (.iload_n 1, 1) := by decide +kernel
theorem dX3_termAt_71 : decode cX3_termAt 71 = .ok (.iconst 1, 1) := by decide +kernel
theorem dX3_termAt_72 : decode cX3_termAt 72 = .ok (.iadd, 1) := by decide +kernel
theorem dX3_termAt_73 : decode cX3_termAt 73 = .ok (.invokestatic 38, 3) := by decide +kernel
theorem dX3_termAt_76 : decode cX3_termAt 76 = .ok (.istore 4, 2) := by decide +kernel
theorem dX3_termAt_78 : decode cX3_termAt 78 = .ok (.iload 4, 2) := by decide +kernel
theorem dX3_termAt_80 : decode cX3_termAt 80 = .ok (.ldc 56, 2) := by decide +kernel
theorem dX3_termAt_82 : decode cX3_termAt 82 = .ok (.if_icmp .ne 6, 3) := by decide +kernel
theorem dX3_termAt_85 : decode cX3_termAt 85 = .ok (.ldc 56, 2) := by decide +kernel
theorem dX3_termAt_87 : decode cX3_termAt 87 = .ok (.ireturn, 1) := by decide +kernel
theorem dX3_termAt_88 : decode cX3_termAt 88 = .ok (.iload_n 3, 1) := by decide +kernel
theorem dX3_termAt_89 : decode cX3_termAt 89 = .ok (.bipush 126, 2) := by decide +kernel
theorem dX3_termAt_91 : decode cX3_termAt 91 = .ok (.if_icmp .ne 7, 3) := by decide +kernel
theorem dX3_termAt_94 : decode cX3_termAt 94 = .ok (.iload 4, 2) := by decide +kernel
theorem dX3_termAt_96 : decode cX3_termAt 96 = .ok (.ineg, 1) := by decide +kernel
theorem dX3_termAt_97 : decode cX3_termAt 97 = .ok (.ireturn, 1) := by decide +kernel
theorem dX3_termAt_98 : decode cX3_termAt 98 = .ok (.iload_n 3, 1) := by decide +kernel
theorem dX3_termAt_99 : decode cX3_termAt 99 = .ok (.bipush 121, 2) := by decide +kernel
theorem dX3_termAt_101 : decode cX3_termAt 101 = .ok (.if_icmp .ne 7, 3) := by decide +kernel
theorem dX3_termAt_104 : decode cX3_termAt 104 = .ok (.iload 4, 2) := by decide +kernel
theorem dX3_termAt_106 : decode cX3_termAt 106 = .ok (.i2b, 1) := by decide +kernel
theorem dX3_termAt_107 : decode cX3_termAt 107 = .ok (.ireturn, 1) := by decide +kernel
theorem dX3_termAt_108 : decode cX3_termAt 108 = .ok (.iload_n 3, 1) := by decide +kernel
theorem dX3_termAt_109 : decode cX3_termAt 109 = .ok (.bipush 37, 2) := by decide +kernel
theorem dX3_termAt_111 : decode cX3_termAt 111 = .ok (.if_icmp .ne 30, 3) := by decide +kernel
theorem dX3_termAt_114 : decode cX3_termAt 114 = .ok (.aload_n 0, 1) := by decide +kernel
theorem dX3_termAt_115 : decode cX3_termAt 115 = .ok (.getfield 9, 3) := by decide +kernel
theorem dX3_termAt_118 : decode cX3_termAt 118 = .ok (.getfield 64, 3) := by decide +kernel
theorem dX3_termAt_121 : decode cX3_termAt 121 = .ok (.iload_n 1, 1) := by decide +kernel
theorem dX3_termAt_122 : decode cX3_termAt 122 = .ok (.iaload, 1) := by decide +kernel
theorem dX3_termAt_123 : decode cX3_termAt 123 = .ok (.istore 5, 2) := by decide +kernel
theorem dX3_termAt_125 : decode cX3_termAt 125 = .ok (.iload 5, 2) := by decide +kernel
theorem dX3_termAt_127 : decode cX3_termAt 127 = .ok (.iconst 1, 1) := by decide +kernel
theorem dX3_termAt_128 : decode cX3_termAt 128 = .ok (.if_icmp .ge 7, 3) := by decide +kernel
theorem dX3_termAt_131 : decode cX3_termAt 131 = .ok (.iconst 0, 1) := by decide +kernel
theorem dX3_termAt_132 : decode cX3_termAt 132 = .ok (.goto 8, 3) := by decide +kernel
theorem dX3_termAt_135 : decode cX3_termAt 135 = .ok (.iload 4, 2) := by decide +kernel
theorem dX3_termAt_137 : decode cX3_termAt 137 = .ok (.iload 5, 2) := by decide +kernel
theorem dX3_termAt_139 : decode cX3_termAt 139 = .ok (.irem, 1) := by decide +kernel
theorem dX3_termAt_140 : decode cX3_termAt 140 = .ok (.ireturn, 1) := by decide +kernel
theorem dX3_termAt_141 : decode cX3_termAt 141 = .ok (.aload_n 0, 1) := by decide +kernel
theorem dX3_termAt_142 : decode cX3_termAt 142 = .ok (.getfield 15, 3) := by decide +kernel
theorem dX3_termAt_145 : decode cX3_termAt 145 = .ok (.aload_n 0, 1) := by decide +kernel
theorem dX3_termAt_146 : decode cX3_termAt 146 = .ok (.getfield 9, 3) := by decide +kernel
theorem dX3_termAt_149 : decode cX3_termAt 149 = .ok (.getfield 46, 3) := by decide +kernel
theorem dX3_termAt_152 : decode cX3_termAt 152 = .ok (.iload_n 1, 1) := by decide +kernel
theorem dX3_termAt_153 : decode cX3_termAt 153 = .ok (.iaload, 1) := by decide +kernel
theorem dX3_termAt_154 : decode cX3_termAt 154 = .ok (.invokestatic 38, 3) := by decide +kernel
theorem dX3_termAt_157 : decode cX3_termAt 157 = .ok (.istore 5, 2) := by decide +kernel
theorem dX3_termAt_159 : decode cX3_termAt 159 = .ok (.iload 5, 2) := by decide +kernel
theorem dX3_termAt_161 : decode cX3_termAt 161 = .ok (.ldc 56, 2) := by decide +kernel
theorem dX3_termAt_163 : decode cX3_termAt 163 = .ok (.if_icmp .ne 8, 3) := by decide +kernel
theorem dX3_termAt_166 : decode cX3_termAt 166 = .ok (.ldc 56, 2) := by decide +kernel
theorem dX3_termAt_168 : decode cX3_termAt 168 = .ok (.goto 11, 3) := by decide +kernel
theorem dX3_termAt_171 : decode cX3_termAt 171 = .ok (.iload_n 3, 1) := by decide +kernel
theorem dX3_termAt_172 : decode cX3_termAt 172 = .ok (.iload 4, 2) := by decide +kernel
theorem dX3_termAt_174 : decode cX3_termAt 174 = .ok (.iload 5, 2) := by decide +kernel
theorem dX3_termAt_176 : decode cX3_termAt 176 = .ok (.invokestatic 67, 3) := by decide +kernel
theorem dX3_termAt_179 : decode cX3_termAt 179 = .ok (.ireturn, 1) := by decide +kernel
theorem dX4_init_0 : decode cX4_init 0 = .ok (.aload_n 0, 1) := by decide +kernel
theorem dX4_init_1 : decode cX4_init 1 = .ok (.invokespecial 3, 3) := by decide +kernel
theorem dX4_init_4 : decode cX4_init 4 = .ok (.aload_n 0, 1) := by decide +kernel
theorem dX4_init_5 : decode cX4_init 5 = .ok (.bipush 48, 2) := by decide +kernel
theorem dX4_init_7 : decode cX4_init 7 = .ok (.newarray .long, 2) := by decide +kernel
theorem dX4_init_9 : decode cX4_init 9 = .ok (.putfield 9, 3) := by decide +kernel
theorem dX4_init_12 : decode cX4_init 12 = .ok (.return_, 1) := by decide +kernel
theorem dX4_clear_0 : decode cX4_clear 0 = .ok (.aload_n 0, 1) := by decide +kernel
theorem dX4_clear_1 : decode cX4_clear 1 = .ok (.iconst 0, 1) := by decide +kernel
theorem dX4_clear_2 : decode cX4_clear 2 = .ok (.putfield 15, 3) := by decide +kernel
theorem dX4_clear_5 : decode cX4_clear 5 = .ok (.return_, 1) := by decide +kernel
theorem dX4_note_0 : decode cX4_note 0 = .ok (.lconst 0, 1) := by decide +kernel
theorem dX4_note_1 : decode cX4_note 1 = .ok (.lstore_n 2, 1) := by decide +kernel
theorem dX4_note_2 : decode cX4_note 2 = .ok (.iconst 0, 1) := by decide +kernel
theorem dX4_note_3 : decode cX4_note 3 = .ok (.istore 4, 2) := by decide +kernel
theorem dX4_note_5 : decode cX4_note 5 = .ok (.iload 4, 2) := by decide +kernel
theorem dX4_note_7 : decode cX4_note 7 = .ok (.iconst 4, 1) := by decide +kernel
theorem dX4_note_8 : decode cX4_note 8 = .ok (.if_icmp .ge 27, 3) := by decide +kernel
theorem dX4_note_11 : decode cX4_note 11 = .ok (.lload_n 2, 1) := by decide +kernel
theorem dX4_note_12 : decode cX4_note 12 = .ok (.ldc2_w 19, 3) := by decide +kernel
theorem dX4_note_15 : decode cX4_note 15 = .ok (.lmul, 1) := by decide +kernel
theorem dX4_note_16 : decode cX4_note 16 = .ok (.aload_n 1, 1) := by decide +kernel
theorem dX4_note_17 : decode cX4_note 17 = .ok (.iload 4, 2) := by decide +kernel
theorem dX4_note_19 : decode cX4_note 19 = .ok (.invokestatic 21, 3) := by decide +kernel
theorem dX4_note_22 : decode cX4_note 22 = .ok (.sipush (-999), 3) := by decide +kernel
theorem dX4_note_25 : decode cX4_note 25 = .ok (.isub, 1) := by decide +kernel
theorem dX4_note_26 : decode cX4_note 26 = .ok (.i2l, 1) := by decide +kernel
theorem dX4_note_27 : decode cX4_note 27 = .ok (.ladd, 1) := by decide +kernel
theorem dX4_note_28 : decode cX4_note 28 = .ok (.lstore_n 2, 1) := by decide +kernel
theorem dX4_note_29 : decode cX4_note 29 = .ok (.iinc 4 1, 3) := by decide +kernel
theorem dX4_note_32 : decode cX4_note 32 = .ok (.goto (-27), 3) := by decide +kernel
theorem dX4_note_35 : decode cX4_note 35 = .ok (.iconst 0, 1) := by decide +kernel
theorem dX4_note_36 : decode cX4_note 36 = .ok (.istore 4, 2) := by decide +kernel
theorem dX4_note_38 : decode cX4_note 38 = .ok (.iload 4, 2) := by decide +kernel
theorem dX4_note_40 : decode cX4_note 40 = .ok (.aload_n 0, 1) := by decide +kernel
theorem dX4_note_41 : decode cX4_note 41 = .ok (.getfield 15, 3) := by decide +kernel
theorem dX4_note_44 : decode cX4_note 44 = .ok (.if_icmp .ge 22, 3) := by decide +kernel
theorem dX4_note_47 : decode cX4_note 47 = .ok (.aload_n 0, 1) := by decide +kernel
theorem dX4_note_48 : decode cX4_note 48 = .ok (.getfield 9, 3) := by decide +kernel
theorem dX4_note_51 : decode cX4_note 51 = .ok (.iload 4, 2) := by decide +kernel
theorem dX4_note_53 : decode cX4_note 53 = .ok (.laload, 1) := by decide +kernel
theorem dX4_note_54 : decode cX4_note 54 = .ok (.lload_n 2, 1) := by decide +kernel
theorem dX4_note_55 : decode cX4_note 55 = .ok (.lcmp, 1) := by decide +kernel
theorem dX4_note_56 : decode cX4_note 56 = .ok (.ifCond .ne 4, 3) := by decide +kernel
theorem dX4_note_59 : decode cX4_note 59 = .ok (.return_, 1) := by decide +kernel
theorem dX4_note_60 : decode cX4_note 60 = .ok (.iinc 4 1, 3) := by decide +kernel
theorem dX4_note_63 : decode cX4_note 63 = .ok (.goto (-25), 3) := by decide +kernel
theorem dX4_note_66 : decode cX4_note 66 = .ok (.aload_n 0, 1) := by decide +kernel
theorem dX4_note_67 : decode cX4_note 67 = .ok (.getfield 15, 3) := by decide +kernel
theorem dX4_note_70 : decode cX4_note 70 = .ok (.aload_n 0, 1) := by decide +kernel
theorem dX4_note_71 : decode cX4_note 71 = .ok (.getfield 9, 3) := by decide +kernel
theorem dX4_note_74 : decode cX4_note 74 = .ok (.arraylength, 1) := by decide +kernel
theorem dX4_note_75 : decode cX4_note 75 = .ok (.if_icmp .ge 23, 3) := by decide +kernel
theorem dX4_note_78 : decode cX4_note 78 = .ok (.aload_n 0, 1) := by decide +kernel
theorem dX4_note_79 : decode cX4_note 79 = .ok (.getfield 9, 3) := by decide +kernel
theorem dX4_note_82 : decode cX4_note 82 = .ok (.aload_n 0, 1) := by decide +kernel
theorem dX4_note_83 : decode cX4_note 83 = .ok (.getfield 15, 3) := by decide +kernel
theorem dX4_note_86 : decode cX4_note 86 = .ok (.lload_n 2, 1) := by decide +kernel
theorem dX4_note_87 : decode cX4_note 87 = .ok (.lastore, 1) := by decide +kernel
theorem dX4_note_88 : decode cX4_note 88 = .ok (.aload_n 0, 1) := by decide +kernel
theorem dX4_note_89 : decode cX4_note 89 = .ok (.dup, 1) := by decide +kernel
theorem dX4_note_90 : decode cX4_note 90 = .ok (.getfield 15, 3) := by decide +kernel
theorem dX4_note_93 : decode cX4_note 93 = .ok (.iconst 1, 1) := by decide +kernel
theorem dX4_note_94 : decode cX4_note 94 = .ok (.iadd, 1) := by decide +kernel
theorem dX4_note_95 : decode cX4_note 95 = .ok (.putfield 15, 3) := by decide +kernel
theorem dX4_note_98 : decode cX4_note 98 = .ok (.return_, 1) := by decide +kernel
theorem dX5_init_0 : decode cX5_init 0 = .ok (.aload_n 0, 1) := by decide +kernel
theorem dX5_init_1 : decode cX5_init 1 = .ok (.invokespecial 3, 3) := by decide +kernel
theorem dX5_init_4 : decode cX5_init 4 = .ok (.aload_n 0, 1) := by decide +kernel
theorem dX5_init_5 : decode cX5_init 5 = .ok (.bipush 6, 2) := by decide +kernel
theorem dX5_init_7 : decode cX5_init 7 = .ok (.anewarray 9, 3) := by decide +kernel
theorem dX5_init_10 : decode cX5_init 10 = .ok (.putfield 11, 3) := by decide +kernel
theorem dX5_init_13 : decode cX5_init 13 = .ok (.iconst 0, 1) := by decide +kernel
theorem dX5_init_14 : decode cX5_init 14 = .ok (.istore_n 1, 1) := by decide +kernel
theorem dX5_init_15 : decode cX5_init 15 = .ok (.iload_n 1, 1) := by decide +kernel
theorem dX5_init_16 : decode cX5_init 16 = .ok (.bipush 6, 2) := by decide +kernel
theorem dX5_init_18 : decode cX5_init 18 = .ok (.if_icmp .ge 22, 3) := by decide +kernel
theorem dX5_init_21 : decode cX5_init 21 = .ok (.aload_n 0, 1) := by decide +kernel
theorem dX5_init_22 : decode cX5_init 22 = .ok (.getfield 11, 3) := by decide +kernel
theorem dX5_init_25 : decode cX5_init 25 = .ok (.iload_n 1, 1) := by decide +kernel
theorem dX5_init_26 : decode cX5_init 26 = .ok (.new 9, 3) := by decide +kernel
theorem dX5_init_29 : decode cX5_init 29 = .ok (.dup, 1) := by decide +kernel
theorem dX5_init_30 : decode cX5_init 30 = .ok (.invokespecial 17, 3) := by decide +kernel
theorem dX5_init_33 : decode cX5_init 33 = .ok (.aastore, 1) := by decide +kernel
theorem dX5_init_34 : decode cX5_init 34 = .ok (.iinc 1 1, 3) := by decide +kernel
theorem dX5_init_37 : decode cX5_init 37 = .ok (.goto (-22), 3) := by decide +kernel
theorem dX5_init_40 : decode cX5_init 40 = .ok (.return_, 1) := by decide +kernel
theorem dX5_countRows_0 : decode cX5_countRows 0 = .ok (.iconst 0, 1) := by decide +kernel
theorem dX5_countRows_1 : decode cX5_countRows 1 = .ok (.istore_n 1, 1) := by decide +kernel
theorem dX5_countRows_2 : decode cX5_countRows 2 = .ok (.iconst 0, 1) := by decide +kernel
theorem dX5_countRows_3 : decode cX5_countRows 3 = .ok (.istore_n 2, 1) := by decide +kernel
theorem dX5_countRows_4 : decode cX5_countRows 4 = .ok (.iload_n 2, 1) := by decide +kernel
theorem dX5_countRows_5 : decode cX5_countRows 5 = .ok (.bipush 6, 2) := by decide +kernel
theorem dX5_countRows_7 : decode cX5_countRows 7 = .ok (.if_icmp .ge 21, 3) := by decide +kernel
theorem dX5_countRows_10 : decode cX5_countRows 10 = .ok (.iload_n 1, 1) := by decide +kernel
theorem dX5_countRows_11 : decode cX5_countRows 11 = .ok (.aload_n 0, 1) := by decide +kernel
theorem dX5_countRows_12 : decode cX5_countRows 12 = .ok (.getfield 11, 3) := by decide +kernel
theorem dX5_countRows_15 : decode cX5_countRows 15 = .ok (.iload_n 2, 1) := by decide +kernel
theorem dX5_countRows_16 : decode cX5_countRows 16 = .ok (.aaload, 1) := by decide +kernel
theorem dX5_countRows_17 : decode cX5_countRows 17 = .ok (.getfield 18, 3) := by decide +kernel
theorem dX5_countRows_20 : decode cX5_countRows 20 = .ok (.iadd, 1) := by decide +kernel
theorem dX5_countRows_21 : decode cX5_countRows 21 = .ok (.istore_n 1, 1) := by decide +kernel
theorem dX5_countRows_22 : decode cX5_countRows 22 = .ok (.iinc 2 1, 3) := by decide +kernel
theorem dX5_countRows_25 : decode cX5_countRows 25 = .ok (.goto (-21), 3) := by decide +kernel
theorem dX5_countRows_28 : decode cX5_countRows 28 = .ok (.iload_n 1, 1) := by decide +kernel
theorem dX5_countRows_29 : decode cX5_countRows 29 = .ok (.ireturn, 1) := by decide +kernel
theorem dX5_copyFrom_0 : decode cX5_copyFrom 0 = .ok (.iconst 0, 1) := by decide +kernel
theorem dX5_copyFrom_1 : decode cX5_copyFrom 1 = .ok (.istore_n 2, 1) := by decide +kernel
theorem dX5_copyFrom_2 : decode cX5_copyFrom 2 = .ok (.iload_n 2, 1) := by decide +kernel
theorem dX5_copyFrom_3 : decode cX5_copyFrom 3 = .ok (.bipush 6, 2) := by decide +kernel
theorem dX5_copyFrom_5 : decode cX5_copyFrom 5 = .ok (.if_icmp .ge 24, 3) := by decide +kernel
theorem dX5_copyFrom_8 : decode cX5_copyFrom 8 = .ok (.aload_n 0, 1) := by decide +kernel
theorem dX5_copyFrom_9 : decode cX5_copyFrom 9 = .ok (.getfield 11, 3) := by decide +kernel
theorem dX5_copyFrom_12 : decode cX5_copyFrom 12 = .ok (.iload_n 2, 1) := by decide +kernel
theorem dX5_copyFrom_13 : decode cX5_copyFrom 13 = .ok (.aaload, 1) := by decide +kernel
theorem dX5_copyFrom_14 : decode cX5_copyFrom 14 = .ok (.aload_n 1, 1) := by decide +kernel
theorem dX5_copyFrom_15 : decode cX5_copyFrom 15 = .ok (.getfield 11, 3) := by decide +kernel
theorem dX5_copyFrom_18 : decode cX5_copyFrom 18 = .ok (.iload_n 2, 1) := by decide +kernel
theorem dX5_copyFrom_19 : decode cX5_copyFrom 19 = .ok (.aaload, 1) := by decide +kernel
theorem dX5_copyFrom_20 : decode cX5_copyFrom 20 = .ok (.invokevirtual 22, 3) := by decide +kernel
theorem dX5_copyFrom_23 : decode cX5_copyFrom 23 = .ok (.iinc 2 1, 3) := by decide +kernel
theorem dX5_copyFrom_26 : decode cX5_copyFrom 26 = .ok (.goto (-24), 3) := by decide +kernel
theorem dX5_copyFrom_29 : decode cX5_copyFrom 29 = .ok (.return_, 1) := by decide +kernel
theorem dX6_init_0 : decode cX6_init 0 = .ok (.aload_n 0, 1) := by decide +kernel
theorem dX6_init_1 : decode cX6_init 1 = .ok (.invokespecial 3, 3) := by decide +kernel
theorem dX6_init_4 : decode cX6_init 4 = .ok (.aload_n 0, 1) := by decide +kernel
theorem dX6_init_5 : decode cX6_init 5 = .ok (.iconst 4, 1) := by decide +kernel
theorem dX6_init_6 : decode cX6_init 6 = .ok (.newarray .int, 2) := by decide +kernel
theorem dX6_init_8 : decode cX6_init 8 = .ok (.putfield 9, 3) := by decide +kernel
theorem dX6_init_11 : decode cX6_init 11 = .ok (.aload_n 0, 1) := by decide +kernel
theorem dX6_init_12 : decode cX6_init 12 = .ok (.iconst 4, 1) := by decide +kernel
theorem dX6_init_13 : decode cX6_init 13 = .ok (.newarray .int, 2) := by decide +kernel
theorem dX6_init_15 : decode cX6_init 15 = .ok (.putfield 15, 3) := by decide +kernel
theorem dX6_init_18 : decode cX6_init 18 = .ok (.aload_n 0, 1) := by decide +kernel
theorem dX6_init_19 : decode cX6_init 19 = .ok (.invokevirtual 18, 3) := by decide +kernel
theorem dX6_init_22 : decode cX6_init 22 = .ok (.return_, 1) := by decide +kernel
theorem dX6_clear_0 : decode cX6_clear 0 = .ok (.aload_n 0, 1) := by decide +kernel
theorem dX6_clear_1 : decode cX6_clear 1 = .ok (.ldc 21, 2) := by decide +kernel
theorem dX6_clear_3 : decode cX6_clear 3 = .ok (.putfield 22, 3) := by decide +kernel
theorem dX6_clear_6 : decode cX6_clear 6 = .ok (.aload_n 0, 1) := by decide +kernel
theorem dX6_clear_7 : decode cX6_clear 7 = .ok (.ldc 21, 2) := by decide +kernel
theorem dX6_clear_9 : decode cX6_clear 9 = .ok (.putfield 26, 3) := by decide +kernel
theorem dX6_clear_12 : decode cX6_clear 12 = .ok (.aload_n 0, 1) := by decide +kernel
theorem dX6_clear_13 : decode cX6_clear 13 = .ok (.iconst 0, 1) := by decide +kernel
theorem dX6_clear_14 : decode cX6_clear 14 = .ok (.putfield 29, 3) := by decide +kernel
theorem dX6_clear_17 : decode cX6_clear 17 = .ok (.aload_n 0, 1) := by decide +kernel
theorem dX6_clear_18 : decode cX6_clear 18 = .ok (.iconst 0, 1) := by decide +kernel
theorem dX6_clear_19 : decode cX6_clear 19 = .ok (.putfield 32, 3) := by decide +kernel
theorem dX6_clear_22 : decode cX6_clear 22 = .ok (.aload_n 0, 1) := by decide +kernel
theorem dX6_clear_23 : decode cX6_clear 23 = .ok (.iconst 0, 1) := by decide +kernel
theorem dX6_clear_24 : decode cX6_clear 24 = .ok (.putfield 35, 3) := by decide +kernel
theorem dX6_clear_27 : decode cX6_clear 27 = .ok (.return_, 1) := by decide +kernel
theorem dX6_come_0 : decode cX6_come 0 = .ok (.iload_n 1, 1) := by decide +kernel
theorem dX6_come_1 : decode cX6_come 1 = .ok (.sipush 1000, 3) := by decide +kernel
theorem dX6_come_4 : decode cX6_come 4 = .ok (.if_icmp .ne 14, 3) := by decide +kernel
theorem dX6_come_7 : decode cX6_come 7 = .ok (.aload_n 0, 1) := by decide +kernel
theorem dX6_come_8 : decode cX6_come 8 = .ok (.dup, 1) := by decide +kernel
theorem dX6_come_9 : decode cX6_come 9 = .ok (.getfield 29, 3) := by decide +kernel
theorem dX6_come_12 : decode cX6_come 12 = .ok (.iconst 1, 1) := by decide +kernel
theorem dX6_come_13 : decode cX6_come 13 = .ok (.iadd, 1) := by decide +kernel
theorem dX6_come_14 : decode cX6_come 14 = .ok (.putfield 29, 3) := by decide +kernel
theorem dX6_come_17 : decode cX6_come 17 = .ok (.return_, 1) := by decide +kernel
theorem dX6_come_18 : decode cX6_come 18 = .ok (.aload_n 0, 1) := by decide +kernel
theorem dX6_come_19 : decode cX6_come 19 = .ok (.aload_n 0, 1) := by decide +kernel
theorem dX6_come_20 : decode cX6_come 20 = .ok (.getfield 22, 3) := by decide +kernel
theorem dX6_come_23 : decode cX6_come 23 = .ok (.ldc 21, 2) := by decide +kernel
theorem dX6_come_25 : decode cX6_come 25 = .ok (.if_icmp .ne 7, 3) := by decide +kernel
theorem dX6_come_28 : decode cX6_come 28 = .ok (.iload_n 1, 1) := by decide +kernel
theorem dX6_come_29 : decode cX6_come 29 = .ok (.goto 11, 3) := by decide +kernel
theorem dX6_come_32 : decode cX6_come 32 = .ok (.aload_n 0, 1) := by decide +kernel
theorem dX6_come_33 : decode cX6_come 33 = .ok (.getfield 22, 3) := by decide +kernel
theorem dX6_come_36 : decode cX6_come 36 = .ok (.iload_n 1, 1) := by decide +kernel
theorem dX6_come_37 : decode cX6_come 37 = .ok (.invokestatic 39, 3) := by decide +kernel
theorem dX6_come_40 : decode cX6_come 40 = .ok (.putfield 22, 3) := by decide +kernel
theorem dX6_come_43 : decode cX6_come 43 = .ok (.aload_n 0, 1) := by decide +kernel
theorem dX6_come_44 : decode cX6_come 44 = .ok (.aload_n 0, 1) := by decide +kernel
theorem dX6_come_45 : decode cX6_come 45 = .ok (.getfield 26, 3) := by decide +kernel
theorem dX6_come_48 : decode cX6_come 48 = .ok (.ldc 21, 2) := by decide +kernel
theorem dX6_come_50 : decode cX6_come 50 = .ok (.if_icmp .ne 7, 3) := by decide +kernel
theorem dX6_come_53 : decode cX6_come 53 = .ok (.iload_n 1, 1) := by decide +kernel
theorem dX6_come_54 : decode cX6_come 54 = .ok (.goto 11, 3) := by decide +kernel
theorem dX6_come_57 : decode cX6_come 57 = .ok (.aload_n 0, 1) := by decide +kernel
theorem dX6_come_58 : decode cX6_come 58 = .ok (.getfield 26, 3) := by decide +kernel
theorem dX6_come_61 : decode cX6_come 61 = .ok (.iload_n 1, 1) := by decide +kernel
theorem dX6_come_62 : decode cX6_come 62 = .ok (.invokestatic 45, 3) := by decide +kernel
theorem dX6_come_65 : decode cX6_come 65 = .ok (.putfield 26, 3) := by decide +kernel
theorem dX6_come_68 : decode cX6_come 68 = .ok (.aload_n 0, 1) := by decide +kernel
theorem dX6_come_69 : decode cX6_come 69 = .ok (.getfield 35, 3) := by decide +kernel
theorem dX6_come_72 : decode cX6_come 72 = .ok (.ifCond .ne 8, 3) := by decide +kernel
theorem dX6_come_75 : decode cX6_come 75 = .ok (.aload_n 0, 1) := by decide +kernel
theorem dX6_come_76 : decode cX6_come 76 = .ok (.iload_n 1, 1) := by decide +kernel
theorem dX6_come_77 : decode cX6_come 77 = .ok (.invokevirtual 48, 3) := by decide +kernel
theorem dX6_come_80 : decode cX6_come 80 = .ok (.return_, 1) := by decide +kernel
theorem dX6_enlist_0 : decode cX6_enlist 0 = .ok (.aload_n 0, 1) := by decide +kernel
theorem dX6_enlist_1 : decode cX6_enlist 1 = .ok (.iload_n 1, 1) := by decide +kernel
theorem dX6_enlist_2 : decode cX6_enlist 2 = .ok (.invokevirtual 52, 3) := by decide +kernel
theorem dX6_enlist_5 : decode cX6_enlist 5 = .ok (.istore_n 2, 1) := by decide +kernel
theorem dX6_enlist_6 : decode cX6_enlist 6 = .ok (.iload_n 2, 1) := by decide +kernel
theorem dX6_enlist_7 : decode cX6_enlist 7 = .ok (.ldc 21, 2) := by decide +kernel
theorem dX6_enlist_9 : decode cX6_enlist 9 = .ok (.if_icmp .eq 16, 3) := by decide +kernel
theorem dX6_enlist_12 : decode cX6_enlist 12 = .ok (.aload_n 0, 1) := by decide +kernel
theorem dX6_enlist_13 : decode cX6_enlist 13 = .ok (.getfield 15, 3) := by decide +kernel
theorem dX6_enlist_16 : decode cX6_enlist 16 = .ok (.iload_n 2, 1) := by decide +kernel
theorem dX6_enlist_17 : decode cX6_enlist 17 = .ok (.dup2, 1) := by decide +kernel
theorem dX6_enlist_18 : decode cX6_enlist 18 = .ok (.iaload, 1) := by decide +kernel
theorem dX6_enlist_19 : decode cX6_enlist 19 = .ok (.iconst 1, 1) := by decide +kernel
theorem dX6_enlist_20 : decode cX6_enlist 20 = .ok (.iadd, 1) := by decide +kernel
theorem dX6_enlist_21 : decode cX6_enlist 21 = .ok (.iastore, 1) := by decide +kernel
theorem dX6_enlist_22 : decode cX6_enlist 22 = .ok (.goto 54, 3) := by decide +kernel
theorem dX6_enlist_25 : decode cX6_enlist 25 = .ok (.aload_n 0, 1) := by decide +kernel
theorem dX6_enlist_26 : decode cX6_enlist 26 = .ok (.getfield 32, 3) := by decide +kernel
theorem dX6_enlist_29 : decode cX6_enlist 29 = .ok (.iconst 4, 1) := by decide +kernel
theorem dX6_enlist_30 : decode cX6_enlist 30 = .ok (.if_icmp .ge 36, 3) := by decide +kernel
theorem dX6_enlist_33 : decode cX6_enlist 33 = .ok (.aload_n 0, 1) := by decide +kernel
theorem dX6_enlist_34 : decode cX6_enlist 34 = .ok (.getfield 9, 3) := by decide +kernel
theorem dX6_enlist_37 : decode cX6_enlist 37 = .ok (.aload_n 0, 1) := by decide +kernel
theorem dX6_enlist_38 : decode cX6_enlist 38 = .ok (.getfield 32, 3) := by decide +kernel
theorem dX6_enlist_41 : decode cX6_enlist 41 = .ok (.iload_n 1, 1) := by decide +kernel
theorem dX6_enlist_42 : decode cX6_enlist 42 = .ok (.iastore, 1) := by decide +kernel
theorem dX6_enlist_43 : decode cX6_enlist 43 = .ok (.aload_n 0, 1) := by decide +kernel
theorem dX6_enlist_44 : decode cX6_enlist 44 = .ok (.getfield 15, 3) := by decide +kernel
theorem dX6_enlist_47 : decode cX6_enlist 47 = .ok (.aload_n 0, 1) := by decide +kernel
theorem dX6_enlist_48 : decode cX6_enlist 48 = .ok (.getfield 32, 3) := by decide +kernel
theorem dX6_enlist_51 : decode cX6_enlist 51 = .ok (.iconst 1, 1) := by decide +kernel
theorem dX6_enlist_52 : decode cX6_enlist 52 = .ok (.iastore, 1) := by decide +kernel
theorem dX6_enlist_53 : decode cX6_enlist 53 = .ok (.aload_n 0, 1) := by decide +kernel
theorem dX6_enlist_54 : decode cX6_enlist 54 = .ok (.dup, 1) := by decide +kernel
theorem dX6_enlist_55 : decode cX6_enlist 55 = .ok (.getfield 32, 3) := by decide +kernel
theorem dX6_enlist_58 : decode cX6_enlist 58 = .ok (.iconst 1, 1) := by decide +kernel
theorem dX6_enlist_59 : decode cX6_enlist 59 = .ok (.iadd, 1) := by decide +kernel
theorem dX6_enlist_60 : decode cX6_enlist 60 = .ok (.putfield 32, 3) := by decide +kernel
theorem dX6_enlist_63 : decode cX6_enlist 63 = .ok (.goto 13, 3) := by decide +kernel
theorem dX6_enlist_66 : decode cX6_enlist 66 = .ok (.aload_n 0, 1) := by decide +kernel
theorem dX6_enlist_67 : decode cX6_enlist 67 = .ok (.iconst 1, 1) := by decide +kernel
theorem dX6_enlist_68 : decode cX6_enlist 68 = .ok (.putfield 35, 3) := by decide +kernel
theorem dX6_enlist_71 : decode cX6_enlist 71 = .ok (.aload_n 0, 1) := by decide +kernel
theorem dX6_enlist_72 : decode cX6_enlist 72 = .ok (.iconst 0, 1) := by decide +kernel
theorem dX6_enlist_73 : decode cX6_enlist 73 = .ok (.putfield 32, 3) := by decide +kernel
theorem dX6_enlist_76 : decode cX6_enlist 76 = .ok (.return_, 1) := by decide +kernel
theorem dX6_leave_0 : decode cX6_leave 0 = .ok (.iload_n 1, 1) := by decide +kernel
theorem dX6_leave_1 : decode cX6_leave 1 = .ok (.sipush 1000, 3) := by decide +kernel
theorem dX6_leave_4 : decode cX6_leave 4 = .ok (.if_icmp .ne 14, 3) := by decide +kernel
theorem dX6_leave_7 : decode cX6_leave 7 = .ok (.aload_n 0, 1) := by decide +kernel
theorem dX6_leave_8 : decode cX6_leave 8 = .ok (.dup, 1) := by decide +kernel
theorem dX6_leave_9 : decode cX6_leave 9 = .ok (.getfield 29, 3) := by decide +kernel
theorem dX6_leave_12 : decode cX6_leave 12 = .ok (.iconst 1, 1) := by decide +kernel
theorem dX6_leave_13 : decode cX6_leave 13 = .ok (.isub, 1) := by decide +kernel
theorem dX6_leave_14 : decode cX6_leave 14 = .ok (.putfield 29, 3) := by decide +kernel
theorem dX6_leave_17 : decode cX6_leave 17 = .ok (.return_, 1) := by decide +kernel
theorem dX6_leave_18 : decode cX6_leave 18 = .ok (.aload_n 0, 1) := by decide +kernel
theorem dX6_leave_19 : decode cX6_leave 19 = .ok (.iload_n 1, 1) := by decide +kernel
theorem dX6_leave_20 : decode cX6_leave 20 = .ok (.invokevirtual 52, 3) := by decide +kernel
theorem dX6_leave_23 : decode cX6_leave 23 = .ok (.istore_n 2, 1) := by decide +kernel
theorem dX6_leave_24 : decode cX6_leave 24 = .ok (.iload_n 2, 1) := by decide +kernel
theorem dX6_leave_25 : decode cX6_leave 25 = .ok (.ldc 21, 2) := by decide +kernel
theorem dX6_leave_27 : decode cX6_leave 27 = .ok (.if_icmp .eq 13, 3) := by decide +kernel
theorem dX6_leave_30 : decode cX6_leave 30 = .ok (.aload_n 0, 1) := by decide +kernel
theorem dX6_leave_31 : decode cX6_leave 31 = .ok (.getfield 15, 3) := by decide +kernel
theorem dX6_leave_34 : decode cX6_leave 34 = .ok (.iload_n 2, 1) := by decide +kernel
theorem dX6_leave_35 : decode cX6_leave 35 = .ok (.dup2, 1) := by decide +kernel
theorem dX6_leave_36 : decode cX6_leave 36 = .ok (.iaload, 1) := by decide +kernel
theorem dX6_leave_37 : decode cX6_leave 37 = .ok (.iconst 1, 1) := by decide +kernel
theorem dX6_leave_38 : decode cX6_leave 38 = .ok (.isub, 1) := by decide +kernel
theorem dX6_leave_39 : decode cX6_leave 39 = .ok (.iastore, 1) := by decide +kernel
theorem dX6_leave_40 : decode cX6_leave 40 = .ok (.return_, 1) := by decide +kernel
theorem dX6_placeOf_0 : decode cX6_placeOf 0 = .ok (.iconst 0, 1) := by decide +kernel
theorem dX6_placeOf_1 : decode cX6_placeOf 1 = .ok (.istore_n 2, 1) := by decide +kernel
theorem dX6_placeOf_2 : decode cX6_placeOf 2 = .ok (.iload_n 2, 1) := by decide +kernel
theorem dX6_placeOf_3 : decode cX6_placeOf 3 = .ok (.aload_n 0, 1) := by decide +kernel
theorem dX6_placeOf_4 : decode cX6_placeOf 4 = .ok (.getfield 32, 3) := by decide +kernel
theorem dX6_placeOf_7 : decode cX6_placeOf 7 = .ok (.if_icmp .ge 21, 3) := by decide +kernel
theorem dX6_placeOf_10 : decode cX6_placeOf 10 = .ok (.aload_n 0, 1) := by decide +kernel
theorem dX6_placeOf_11 : decode cX6_placeOf 11 = .ok (.getfield 9, 3) := by decide +kernel
theorem dX6_placeOf_14 : decode cX6_placeOf 14 = .ok (.iload_n 2, 1) := by decide +kernel
theorem dX6_placeOf_15 : decode cX6_placeOf 15 = .ok (.iaload, 1) := by decide +kernel
theorem dX6_placeOf_16 : decode cX6_placeOf 16 = .ok (.iload_n 1, 1) := by decide +kernel
theorem dX6_placeOf_17 : decode cX6_placeOf 17 = .ok (.if_icmp .ne 5, 3) := by decide +kernel
theorem dX6_placeOf_20 : decode cX6_placeOf 20 = .ok (.iload_n 2, 1) := by decide +kernel
theorem dX6_placeOf_21 : decode cX6_placeOf 21 = .ok (.ireturn, 1) := by decide +kernel
theorem dX6_placeOf_22 : decode cX6_placeOf 22 = .ok (.iinc 2 1, 3) := by decide +kernel
theorem dX6_placeOf_25 : decode cX6_placeOf 25 = .ok (.goto (-23), 3) := by decide +kernel
theorem dX6_placeOf_28 : decode cX6_placeOf 28 = .ok (.ldc 21, 2) := by decide +kernel
theorem dX6_placeOf_30 : decode cX6_placeOf 30 = .ok (.ireturn, 1) := by decide +kernel
theorem dX6_differsFrom_0 : decode cX6_differsFrom 0 = .ok (.aload_n 0, 1) := by decide +kernel
theorem dX6_differsFrom_1 : decode cX6_differsFrom 1 = .ok (.getfield 22, 3) := by decide +kernel
theorem dX6_differsFrom_4 : decode cX6_differsFrom 4 = .ok (.aload_n 1, 1) := by decide +kernel
theorem dX6_differsFrom_5 : decode cX6_differsFrom 5 = .ok (.getfield 22, 3) := by decide +kernel
theorem dX6_differsFrom_8 : decode cX6_differsFrom 8 = .ok (.if_icmp .ne 14, 3) := by decide +kernel
theorem dX6_differsFrom_11 : decode cX6_differsFrom 11 = .ok (.aload_n 0, 1) := by decide +kernel
theorem dX6_differsFrom_12 : decode cX6_differsFrom 12 = .ok (.getfield 26, 3) := by decide +kernel
theorem dX6_differsFrom_15 : decode cX6_differsFrom 15 = .ok (.aload_n 1, 1) := by decide +kernel
theorem dX6_differsFrom_16 : decode cX6_differsFrom 16 = .ok (.getfield 26, 3) := by decide +kernel
theorem dX6_differsFrom_19 : decode cX6_differsFrom 19 = .ok (.if_icmp .eq 5, 3) := by decide +kernel
theorem dX6_differsFrom_22 : decode cX6_differsFrom 22 = .ok (.iconst 1, 1) := by decide +kernel
theorem dX6_differsFrom_23 : decode cX6_differsFrom 23 = .ok (.ireturn, 1) := by decide +kernel
theorem dX6_differsFrom_24 : decode cX6_differsFrom 24 = .ok (.aload_n 0, 1) := by decide +kernel
theorem dX6_differsFrom_25 : decode cX6_differsFrom 25 = .ok (.getfield 35, 3) := by decide +kernel
theorem dX6_differsFrom_28 : decode cX6_differsFrom 28 = .ok (.aload_n 1, 1) := by decide +kernel
theorem dX6_differsFrom_29 : decode cX6_differsFrom 29 = .ok (.getfield 35, 3) := by decide +kernel
theorem dX6_differsFrom_32 : decode cX6_differsFrom 32 = .ok (.if_icmp .ne 14, 3) := by decide +kernel
theorem dX6_differsFrom_35 : decode cX6_differsFrom 35 = .ok (.aload_n 0, 1) := by decide +kernel
theorem dX6_differsFrom_36 : decode cX6_differsFrom 36 = .ok (.getfield 32, 3) := by decide +kernel
theorem dX6_differsFrom_39 : decode cX6_differsFrom 39 = .ok (.aload_n 1, 1) := by decide +kernel
theorem dX6_differsFrom_40 : decode cX6_differsFrom 40 = .ok (.getfield 32, 3) := by decide +kernel
theorem dX6_differsFrom_43 : decode cX6_differsFrom 43 = .ok (.if_icmp .eq 5, 3) := by decide +kernel
theorem dX6_differsFrom_46 : decode cX6_differsFrom 46 = .ok (.iconst 1, 1) := by decide +kernel
theorem dX6_differsFrom_47 : decode cX6_differsFrom 47 = .ok (.ireturn, 1) := by decide +kernel
theorem dX6_differsFrom_48 : decode cX6_differsFrom 48 = .ok (.iconst 0, 1) := by decide +kernel
theorem dX6_differsFrom_49 : decode cX6_differsFrom 49 = .ok (.istore_n 2, 1) := by decide +kernel
theorem dX6_differsFrom_50 : decode cX6_differsFrom 50 = .ok (.iload_n 2, 1) := by decide +kernel
theorem dX6_differsFrom_51 : decode cX6_differsFrom 51 = .ok (.aload_n 1, 1) := by decide +kernel
theorem dX6_differsFrom_52 : decode cX6_differsFrom 52 = .ok (.getfield 32, 3) := by decide +kernel
theorem dX6_differsFrom_55 : decode cX6_differsFrom 55 = .ok (.if_icmp .ge 26, 3) := by decide +kernel
theorem dX6_differsFrom_58 : decode cX6_differsFrom 58 = .ok (.aload_n 0, 1) := by decide +kernel
theorem dX6_differsFrom_59 : decode cX6_differsFrom 59 = .ok (.aload_n 1, 1) := by decide +kernel
theorem dX6_differsFrom_60 : decode cX6_differsFrom 60 = .ok (.getfield 9, 3) := by decide +kernel
theorem dX6_differsFrom_63 : decode cX6_differsFrom 63 = .ok (.iload_n 2, 1) := by decide +kernel
theorem dX6_differsFrom_64 : decode cX6_differsFrom 64 = .ok (.iaload, 1) := by decide +kernel
theorem dX6_differsFrom_65 : decode cX6_differsFrom 65 = .ok (.invokevirtual 52, 3) := by decide +kernel
theorem dX6_differsFrom_68 : decode cX6_differsFrom 68 = .ok (.ldc 21, 2) := by decide +kernel
theorem dX6_differsFrom_70 : decode cX6_differsFrom 70 = .ok (.if_icmp .ne 5, 3) := by decide +kernel
theorem dX6_differsFrom_73 : decode cX6_differsFrom 73 = .ok (.iconst 1, 1) := by decide +kernel
theorem dX6_differsFrom_74 : decode cX6_differsFrom 74 = .ok (.ireturn, 1) := by decide +kernel
theorem dX6_differsFrom_75 : decode cX6_differsFrom 75 = .ok (.iinc 2 1, 3) := by decide +kernel
theorem dX6_differsFrom_78 : decode cX6_differsFrom 78 = .ok (.goto (-28), 3) := by decide +kernel
theorem dX6_differsFrom_81 : decode cX6_differsFrom 81 = .ok (.iconst 0, 1) := by decide +kernel
theorem dX6_differsFrom_82 : decode cX6_differsFrom 82 = .ok (.ireturn, 1) := by decide +kernel
theorem dX6_copyFrom_0 : decode cX6_copyFrom 0 = .ok (.aload_n 0, 1) := by decide +kernel
theorem dX6_copyFrom_1 : decode cX6_copyFrom 1 = .ok (.aload_n 1, 1) := by decide +kernel
theorem dX6_copyFrom_2 : decode cX6_copyFrom 2 = .ok (.getfield 22, 3) := by decide +kernel
theorem dX6_copyFrom_5 : decode cX6_copyFrom 5 = .ok (.putfield 22, 3) := by decide +kernel
theorem dX6_copyFrom_8 : decode cX6_copyFrom 8 = .ok (.aload_n 0, 1) := by decide +kernel
theorem dX6_copyFrom_9 : decode cX6_copyFrom 9 = .ok (.aload_n 1, 1) := by decide +kernel
theorem dX6_copyFrom_10 : decode cX6_copyFrom 10 = .ok (.getfield 26, 3) := by decide +kernel
theorem dX6_copyFrom_13 : decode cX6_copyFrom 13 = .ok (.putfield 26, 3) := by decide +kernel
theorem dX6_copyFrom_16 : decode cX6_copyFrom 16 = .ok (.aload_n 0, 1) := by decide +kernel
theorem dX6_copyFrom_17 : decode cX6_copyFrom 17 = .ok (.aload_n 1, 1) := by decide +kernel
theorem dX6_copyFrom_18 : decode cX6_copyFrom 18 = .ok (.getfield 29, 3) := by decide +kernel
theorem dX6_copyFrom_21 : decode cX6_copyFrom 21 = .ok (.putfield 29, 3) := by decide +kernel
theorem dX6_copyFrom_24 : decode cX6_copyFrom 24 = .ok (.aload_n 0, 1) := by decide +kernel
theorem dX6_copyFrom_25 : decode cX6_copyFrom 25 = .ok (.aload_n 1, 1) := by decide +kernel
theorem dX6_copyFrom_26 : decode cX6_copyFrom 26 = .ok (.getfield 32, 3) := by decide +kernel
theorem dX6_copyFrom_29 : decode cX6_copyFrom 29 = .ok (.putfield 32, 3) := by decide +kernel
theorem dX6_copyFrom_32 : decode cX6_copyFrom 32 = .ok (.aload_n 0, 1) := by decide +kernel
theorem dX6_copyFrom_33 : decode cX6_copyFrom 33 = .ok (.aload_n 1, 1) := by decide +kernel
theorem dX6_copyFrom_34 : decode cX6_copyFrom 34 = .ok (.getfield 35, 3) := by decide +kernel
theorem dX6_copyFrom_37 : decode cX6_copyFrom 37 = .ok (.putfield 35, 3) := by decide +kernel
theorem dX6_copyFrom_40 : decode cX6_copyFrom 40 = .ok (.aload_n 1, 1) := by decide +kernel
theorem dX6_copyFrom_41 : decode cX6_copyFrom 41 = .ok (.getfield 9, 3) := by decide +kernel
theorem dX6_copyFrom_44 : decode cX6_copyFrom 44 = .ok (.iconst 0, 1) := by decide +kernel
theorem dX6_copyFrom_45 : decode cX6_copyFrom 45 = .ok (.aload_n 0, 1) := by decide +kernel
theorem dX6_copyFrom_46 : decode cX6_copyFrom 46 = .ok (.getfield 9, 3) := by decide +kernel
theorem dX6_copyFrom_49 : decode cX6_copyFrom 49 = .ok (.iconst 0, 1) := by decide +kernel
theorem dX6_copyFrom_50 : decode cX6_copyFrom 50 = .ok (.iconst 4, 1) := by decide +kernel
theorem dX6_copyFrom_51 : decode cX6_copyFrom 51 = .ok (.invokestatic 56, 3) := by decide +kernel
theorem dX6_copyFrom_54 : decode cX6_copyFrom 54 = .ok (.aload_n 1, 1) := by decide +kernel
theorem dX6_copyFrom_55 : decode cX6_copyFrom 55 = .ok (.getfield 15, 3) := by decide +kernel
theorem dX6_copyFrom_58 : decode cX6_copyFrom 58 = .ok (.iconst 0, 1) := by decide +kernel
theorem dX6_copyFrom_59 : decode cX6_copyFrom 59 = .ok (.aload_n 0, 1) := by decide +kernel
theorem dX6_copyFrom_60 : decode cX6_copyFrom 60 = .ok (.getfield 15, 3) := by decide +kernel
theorem dX6_copyFrom_63 : decode cX6_copyFrom 63 = .ok (.iconst 0, 1) := by decide +kernel
theorem dX6_copyFrom_64 : decode cX6_copyFrom 64 = .ok (.iconst 4, 1) := by decide +kernel
theorem dX6_copyFrom_65 : decode cX6_copyFrom 65 = .ok (.invokestatic 56, 3) := by decide +kernel
theorem dX6_copyFrom_68 : decode cX6_copyFrom 68 = .ok (.return_, 1) := by decide +kernel
theorem dX7_init_0 : decode cX7_init 0 = .ok (.aload_n 0, 1) := by decide +kernel
theorem dX7_init_1 : decode cX7_init 1 = .ok (.invokespecial 3, 3) := by decide +kernel
theorem dX7_init_4 : decode cX7_init 4 = .ok (.aload_n 0, 1) := by decide +kernel
theorem dX7_init_5 : decode cX7_init 5 = .ok (.invokevirtual 9, 3) := by decide +kernel
theorem dX7_init_8 : decode cX7_init 8 = .ok (.return_, 1) := by decide +kernel
theorem dX7_clear_0 : decode cX7_clear 0 = .ok (.aload_n 0, 1) := by decide +kernel
theorem dX7_clear_1 : decode cX7_clear 1 = .ok (.ldc 14, 2) := by decide +kernel
theorem dX7_clear_3 : decode cX7_clear 3 = .ok (.putfield 15, 3) := by decide +kernel
theorem dX7_clear_6 : decode cX7_clear 6 = .ok (.aload_n 0, 1) := by decide +kernel
theorem dX7_clear_7 : decode cX7_clear 7 = .ok (.ldc 14, 2) := by decide +kernel
theorem dX7_clear_9 : decode cX7_clear 9 = .ok (.putfield 19, 3) := by decide +kernel
theorem dX7_clear_12 : decode cX7_clear 12 = .ok (.aload_n 0, 1) := by decide +kernel
theorem dX7_clear_13 : decode cX7_clear 13 = .ok (.iconst 0, 1) := by decide +kernel
theorem dX7_clear_14 : decode cX7_clear 14 = .ok (.putfield 22, 3) := by decide +kernel
theorem dX7_clear_17 : decode cX7_clear 17 = .ok (.aload_n 0, 1) := by decide +kernel
theorem dX7_clear_18 : decode cX7_clear 18 = .ok (.iconst 0, 1) := by decide +kernel
theorem dX7_clear_19 : decode cX7_clear 19 = .ok (.putfield 25, 3) := by decide +kernel
theorem dX7_clear_22 : decode cX7_clear 22 = .ok (.return_, 1) := by decide +kernel
theorem dX7_note_0 : decode cX7_note 0 = .ok (.iload_n 1, 1) := by decide +kernel
theorem dX7_note_1 : decode cX7_note 1 = .ok (.sipush 1000, 3) := by decide +kernel
theorem dX7_note_4 : decode cX7_note 4 = .ok (.if_icmp .ne 14, 3) := by decide +kernel
theorem dX7_note_7 : decode cX7_note 7 = .ok (.aload_n 0, 1) := by decide +kernel
theorem dX7_note_8 : decode cX7_note 8 = .ok (.dup, 1) := by decide +kernel
theorem dX7_note_9 : decode cX7_note 9 = .ok (.getfield 25, 3) := by decide +kernel
theorem dX7_note_12 : decode cX7_note 12 = .ok (.iconst 1, 1) := by decide +kernel
theorem dX7_note_13 : decode cX7_note 13 = .ok (.iadd, 1) := by decide +kernel
theorem dX7_note_14 : decode cX7_note 14 = .ok (.putfield 25, 3) := by decide +kernel
theorem dX7_note_17 : decode cX7_note 17 = .ok (.return_, 1) := by decide +kernel
theorem dX7_note_18 : decode cX7_note 18 = .ok (.aload_n 0, 1) := by decide +kernel
theorem dX7_note_19 : decode cX7_note 19 = .ok (.aload_n 0, 1) := by decide +kernel
theorem dX7_note_20 : decode cX7_note 20 = .ok (.getfield 15, 3) := by decide +kernel
theorem dX7_note_23 : decode cX7_note 23 = .ok (.ldc 14, 2) := by decide +kernel
theorem dX7_note_25 : decode cX7_note 25 = .ok (.if_icmp .ne 7, 3) := by decide +kernel
theorem dX7_note_28 : decode cX7_note 28 = .ok (.iload_n 1, 1) := by decide +kernel
theorem dX7_note_29 : decode cX7_note 29 = .ok (.goto 11, 3) := by decide +kernel
theorem dX7_note_32 : decode cX7_note 32 = .ok (.aload_n 0, 1) := by decide +kernel
theorem dX7_note_33 : decode cX7_note 33 = .ok (.getfield 15, 3) := by decide +kernel
theorem dX7_note_36 : decode cX7_note 36 = .ok (.iload_n 1, 1) := by decide +kernel
theorem dX7_note_37 : decode cX7_note 37 = .ok (.invokestatic 28, 3) := by decide +kernel
theorem dX7_note_40 : decode cX7_note 40 = .ok (.putfield 15, 3) := by decide +kernel
theorem dX7_note_43 : decode cX7_note 43 = .ok (.aload_n 0, 1) := by decide +kernel
theorem dX7_note_44 : decode cX7_note 44 = .ok (.aload_n 0, 1) := by decide +kernel
theorem dX7_note_45 : decode cX7_note 45 = .ok (.getfield 19, 3) := by decide +kernel
theorem dX7_note_48 : decode cX7_note 48 = .ok (.ldc 14, 2) := by decide +kernel
theorem dX7_note_50 : decode cX7_note 50 = .ok (.if_icmp .ne 7, 3) := by decide +kernel
theorem dX7_note_53 : decode cX7_note 53 = .ok (.iload_n 1, 1) := by decide +kernel
theorem dX7_note_54 : decode cX7_note 54 = .ok (.goto 11, 3) := by decide +kernel
theorem dX7_note_57 : decode cX7_note 57 = .ok (.aload_n 0, 1) := by decide +kernel
theorem dX7_note_58 : decode cX7_note 58 = .ok (.getfield 19, 3) := by decide +kernel
theorem dX7_note_61 : decode cX7_note 61 = .ok (.iload_n 1, 1) := by decide +kernel
theorem dX7_note_62 : decode cX7_note 62 = .ok (.invokestatic 34, 3) := by decide +kernel
theorem dX7_note_65 : decode cX7_note 65 = .ok (.putfield 19, 3) := by decide +kernel
theorem dX7_note_68 : decode cX7_note 68 = .ok (.aload_n 0, 1) := by decide +kernel
theorem dX7_note_69 : decode cX7_note 69 = .ok (.dup, 1) := by decide +kernel
theorem dX7_note_70 : decode cX7_note 70 = .ok (.getfield 22, 3) := by decide +kernel
theorem dX7_note_73 : decode cX7_note 73 = .ok (.iload_n 1, 1) := by decide +kernel
theorem dX7_note_74 : decode cX7_note 74 = .ok (.iadd, 1) := by decide +kernel
theorem dX7_note_75 : decode cX7_note 75 = .ok (.putfield 22, 3) := by decide +kernel
theorem dX7_note_78 : decode cX7_note 78 = .ok (.return_, 1) := by decide +kernel
