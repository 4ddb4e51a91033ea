theorem dX9_left_31 : decode cX9_left 31 = .ok (.iconst (-1), 1) := by decide +kernel
theorem dX9_left_32 : decode cX9_left 32 = .ok (.ireturn, 1) := by decide +kernel
theorem dX9_left_33 : decode cX9_left 33 = .ok (.aload_n 0, 1) := by decide +kernel
theorem dX9_left_34 : decode cX9_left 34 = .ok (.getfield 40, 3) := by decide +kernel
theorem dX9_left_37 : decode cX9_left 37 = .ok (.iload_n 1, 1) := by decide +kernel
theorem dX9_left_38 : decode cX9_left 38 = .ok (.iload_n 2, 1) := by decide +kernel
theorem dX9_left_39 : decode cX9_left 39 = .ok (.iload_n 3, 1) := by decide +kernel
theorem dX9_left_40 : decode cX9_left 40 = .ok (.invokevirtual 248, 3) := by decide +kernel
theorem dX9_left_43 : decode cX9_left 43 = .ok (.ifCond .eq 13, 3) := by decide +kernel
theorem dX9_left_46 : decode cX9_left 46 = .ok (.aload_n 0, 1) := by decide +kernel
theorem dX9_left_47 : decode cX9_left 47 = .ok (.getfield 40, 3) := by decide +kernel
theorem dX9_left_50 : decode cX9_left 50 = .ok (.getfield 99, 3) := by decide +kernel
theorem dX9_left_53 : decode cX9_left 53 = .ok (.goto 5, 3) := by decide +kernel
theorem dX9_left_56 : decode cX9_left 56 = .ok (.bipush (-3), 2) := by decide +kernel
theorem dX9_left_58 : decode cX9_left 58 = .ok (.ireturn, 1) := by decide +kernel
theorem dX9_sweep_0 : decode cX9_sweep 0 = .ok (.aload_n 0, 1) := by decide +kernel
theorem dX9_sweep_1 : decode cX9_sweep 1 = .ok (.getfield 40, 3) := by decide +kernel
theorem dX9_sweep_4 : decode cX9_sweep 4 = .ok (.getfield 99, 3) := by decide +kernel
theorem dX9_sweep_7 : decode cX9_sweep 7 = .ok (.istore_n 1, 1) := by decide +kernel
theorem dX9_sweep_8 : decode cX9_sweep 8 = .ok (.aload_n 0, 1) := by decide +kernel
theorem dX9_sweep_9 : decode cX9_sweep 9 = .ok (.getfield 40, 3) := by decide +kernel
theorem dX9_sweep_12 : decode cX9_sweep 12 = .ok (.iconst 0, 1) := by decide +kernel
theorem dX9_sweep_13 : decode cX9_sweep 13 = .ok (.putfield 99, 3) := by decide +kernel
theorem dX9_sweep_16 : decode cX9_sweep 16 = .ok (.iload_n 1, 1) := by decide +kernel
theorem dX9_sweep_17 : decode cX9_sweep 17 = .ok (.ireturn, 1) := by decide +kernel
theorem dX9_slept_0 : decode cX9_slept 0 = .ok (.aload_n 0, 1) := by decide +kernel
theorem dX9_slept_1 : decode cX9_slept 1 = .ok (.getfield 40, 3) := by decide +kernel
theorem dX9_slept_4 : decode cX9_slept 4 = .ok (.iload_n 1, 1) := by decide +kernel
theorem dX9_slept_5 : decode cX9_slept 5 = .ok (.invokevirtual 251, 3) := by decide +kernel
theorem dX9_slept_8 : decode cX9_slept 8 = .ok (.ifCond .eq 18, 3) := by decide +kernel
theorem dX9_slept_11 : decode cX9_slept 11 = .ok (.aload_n 0, 1) := by decide +kernel
theorem dX9_slept_12 : decode cX9_slept 12 = .ok (.getfield 40, 3) := by decide +kernel
theorem dX9_slept_15 : decode cX9_slept 15 = .ok (.aload_n 0, 1) := by decide +kernel
theorem dX9_slept_16 : decode cX9_slept 16 = .ok (.getfield 58, 3) := by decide +kernel
theorem dX9_slept_19 : decode cX9_slept 19 = .ok (.iload_n 1, 1) := by decide +kernel
theorem dX9_slept_20 : decode cX9_slept 20 = .ok (.invokevirtual 252, 3) := by decide +kernel
theorem dX9_slept_23 : decode cX9_slept 23 = .ok (.goto 4, 3) := by decide +kernel
theorem dX9_slept_26 : decode cX9_slept 26 = .ok (.iconst (-1), 1) := by decide +kernel
theorem dX9_slept_27 : decode cX9_slept 27 = .ok (.ireturn, 1) := by decide +kernel
theorem dX9_sure_0 : decode cX9_sure 0 = .ok (.iload_n 1, 1) := by decide +kernel
theorem dX9_sure_1 : decode cX9_sure 1 = .ok (.iconst (-1), 1) := by decide +kernel
theorem dX9_sure_2 : decode cX9_sure 2 = .ok (.if_icmp .ne 18, 3) := by decide +kernel
theorem dX9_sure_5 : decode cX9_sure 5 = .ok (.aload_n 0, 1) := by decide +kernel
theorem dX9_sure_6 : decode cX9_sure 6 = .ok (.getfield 40, 3) := by decide +kernel
theorem dX9_sure_9 : decode cX9_sure 9 = .ok (.aload_n 0, 1) := by decide +kernel
theorem dX9_sure_10 : decode cX9_sure 10 = .ok (.getfield 58, 3) := by decide +kernel
theorem dX9_sure_13 : decode cX9_sure 13 = .ok (.bipush (-4), 2) := by decide +kernel
theorem dX9_sure_15 : decode cX9_sure 15 = .ok (.iconst 0, 1) := by decide +kernel
theorem dX9_sure_16 : decode cX9_sure 16 = .ok (.invokevirtual 256, 3) := by decide +kernel
theorem dX9_sure_19 : decode cX9_sure 19 = .ok (.ireturn, 1) := by decide +kernel
theorem dX9_sure_20 : decode cX9_sure 20 = .ok (.aload_n 0, 1) := by decide +kernel
theorem dX9_sure_21 : decode cX9_sure 21 = .ok (.getfield 40, 3) := by decide +kernel
theorem dX9_sure_24 : decode cX9_sure 24 = .ok (.iload_n 1, 1) := by decide +kernel
theorem dX9_sure_25 : decode cX9_sure 25 = .ok (.invokevirtual 251, 3) := by decide +kernel
theorem dX9_sure_28 : decode cX9_sure 28 = .ok (.ifCond .eq 18, 3) := by decide +kernel
theorem dX9_sure_31 : decode cX9_sure 31 = .ok (.aload_n 0, 1) := by decide +kernel
theorem dX9_sure_32 : decode cX9_sure 32 = .ok (.getfield 40, 3) := by decide +kernel
theorem dX9_sure_35 : decode cX9_sure 35 = .ok (.aload_n 0, 1) := by decide +kernel
theorem dX9_sure_36 : decode cX9_sure 36 = .ok (.getfield 58, 3) := by decide +kernel
theorem dX9_sure_39 : decode cX9_sure 39 = .ok (.iload_n 1, 1) := by decide +kernel
theorem dX9_sure_40 : decode cX9_sure 40 = .ok (.invokevirtual 260, 3) := by decide +kernel
theorem dX9_sure_43 : decode cX9_sure 43 = .ok (.goto 4, 3) := by decide +kernel
theorem dX9_sure_46 : decode cX9_sure 46 = .ok (.iconst (-1), 1) := by decide +kernel
theorem dX9_sure_47 : decode cX9_sure 47 = .ok (.ireturn, 1) := by decide +kernel
theorem dX9_found_0 : decode cX9_found 0 = .ok (.aload_n 0, 1) := by decide +kernel
theorem dX9_found_1 : decode cX9_found 1 = .ok (.getfield 58, 3) := by decide +kernel
theorem dX9_found_4 : decode cX9_found 4 = .ok (.getfield 104, 3) := by decide +kernel
theorem dX9_found_7 : decode cX9_found 7 = .ok (.iload_n 1, 1) := by decide +kernel
theorem dX9_found_8 : decode cX9_found 8 = .ok (.invokevirtual 128, 3) := by decide +kernel
theorem dX9_found_11 : decode cX9_found 11 = .ok (.ifCond .eq 13, 3) := by decide +kernel
theorem dX9_found_14 : decode cX9_found 14 = .ok (.iload_n 2, 1) := by decide +kernel
theorem dX9_found_15 : decode cX9_found 15 = .ok (.iconst 0, 1) := by decide +kernel
theorem dX9_found_16 : decode cX9_found 16 = .ok (.bipush 10, 2) := by decide +kernel
theorem dX9_found_18 : decode cX9_found 18 = .ok (.invokestatic 89, 3) := by decide +kernel
theorem dX9_found_21 : decode cX9_found 21 = .ok (.ifCond .ne 5, 3) := by decide +kernel
theorem dX9_found_24 : decode cX9_found 24 = .ok (.iconst (-1), 1) := by decide +kernel
theorem dX9_found_25 : decode cX9_found 25 = .ok (.ireturn, 1) := by decide +kernel
theorem dX9_found_26 : decode cX9_found 26 = .ok (.aload_n 0, 1) := by decide +kernel
theorem dX9_found_27 : decode cX9_found 27 = .ok (.getfield 19, 3) := by decide +kernel
theorem dX9_found_30 : decode cX9_found 30 = .ok (.aload_n 0, 1) := by decide +kernel
theorem dX9_found_31 : decode cX9_found 31 = .ok (.getfield 58, 3) := by decide +kernel
theorem dX9_found_34 : decode cX9_found 34 = .ok (.ldc 152, 2) := by decide +kernel
theorem dX9_found_36 : decode cX9_found 36 = .ok (.invokevirtual 153, 3) := by decide +kernel
theorem dX9_found_39 : decode cX9_found 39 = .ok (.aload_n 0, 1) := by decide +kernel
theorem dX9_found_40 : decode cX9_found 40 = .ok (.getfield 19, 3) := by decide +kernel
theorem dX9_found_43 : decode cX9_found 43 = .ok (.iload_n 1, 1) := by decide +kernel
theorem dX9_found_44 : decode cX9_found 44 = .ok (.invokevirtual 157, 3) := by decide +kernel
theorem dX9_found_47 : decode cX9_found 47 = .ok (.ifCond .eq 15, 3) := by decide +kernel
theorem dX9_found_50 : decode cX9_found 50 = .ok (.aload_n 0, 1) := by decide +kernel
theorem dX9_found_51 : decode cX9_found 51 = .ok (.getfield 19, 3) := by decide +kernel
theorem dX9_found_54 : decode cX9_found 54 = .ok (.getfield 160, 3) := by decide +kernel
theorem dX9_found_57 : decode cX9_found 57 = .ok (.iload_n 1, 1) := by decide +kernel
theorem dX9_found_58 : decode cX9_found 58 = .ok (.iaload, 1) := by decide +kernel
theorem dX9_found_59 : decode cX9_found 59 = .ok (.goto 5, 3) := by decide +kernel
theorem dX9_found_62 : decode cX9_found 62 = .ok (.bipush 29, 2) := by decide +kernel
theorem dX9_found_64 : decode cX9_found 64 = .ok (.istore_n 3, 1) := by decide +kernel
theorem dX9_found_65 : decode cX9_found 65 = .ok (.iconst 0, 1) := by decide +kernel
theorem dX9_found_66 : decode cX9_found 66 = .ok (.sipush 1000, 3) := by decide +kernel
theorem dX9_found_69 : decode cX9_found 69 = .ok (.bipush 10, 2) := by decide +kernel
theorem dX9_found_71 : decode cX9_found 71 = .ok (.iload_n 2, 1) := by decide +kernel
theorem dX9_found_72 : decode cX9_found 72 = .ok (.imul, 1) := by decide +kernel
theorem dX9_found_73 : decode cX9_found 73 = .ok (.aload_n 0, 1) := by decide +kernel
theorem dX9_found_74 : decode cX9_found 74 = .ok (.getfield 58, 3) := by decide +kernel
theorem dX9_found_77 : decode cX9_found 77 = .ok (.getfield 104, 3) := by decide +kernel
theorem dX9_found_80 : decode cX9_found 80 = .ok (.getfield 138, 3) := by decide +kernel
theorem dX9_found_83 : decode cX9_found 83 = .ok (.iload_n 1, 1) := by decide +kernel
theorem dX9_found_84 : decode cX9_found 84 = .ok (.iaload, 1) := by decide +kernel
theorem dX9_found_85 : decode cX9_found 85 = .ok (.invokestatic 263, 3) := by decide +kernel
theorem dX9_found_88 : decode cX9_found 88 = .ok (.imul, 1) := by decide +kernel
theorem dX9_found_89 : decode cX9_found 89 = .ok (.isub, 1) := by decide +kernel
theorem dX9_found_90 : decode cX9_found 90 = .ok (.invokestatic 268, 3) := by decide +kernel
theorem dX9_found_93 : decode cX9_found 93 = .ok (.istore 4, 2) := by decide +kernel
theorem dX9_found_95 : decode cX9_found 95 = .ok (.sipush 1000, 3) := by decide +kernel
theorem dX9_found_98 : decode cX9_found 98 = .ok (.istore 5, 2) := by decide +kernel
theorem dX9_found_100 : decode cX9_found 100 = .ok (.aload_n 0, 1) := by decide +kernel
theorem dX9_found_101 : decode cX9_found 101 = .ok (.getfield 58, 3) := by decide +kernel
theorem dX9_found_104 : decode cX9_found 104 = .ok (.getfield 104, 3) := by decide +kernel
theorem dX9_found_107 : decode cX9_found 107 = .ok (.getfield 132, 3) := by decide +kernel
theorem dX9_found_110 : decode cX9_found 110 = .ok (.iload_n 1, 1) := by decide +kernel
theorem dX9_found_111 : decode cX9_found 111 = .ok (.iaload, 1) := by decide +kernel
theorem dX9_found_112 : decode cX9_found 112 = .ok (.istore 6, 2) := by decide +kernel
theorem dX9_found_114 : decode cX9_found 114 = .ok (.iload 6, 2) := by decide +kernel
theorem dX9_found_116 : decode cX9_found 116 = .ok (.iload_n 3, 1) := by decide +kernel
theorem dX9_found_117 : decode cX9_found 117 = .ok (.if_icmp .gt 20, 3) := by decide +kernel
theorem dX9_found_120 : decode cX9_found 120 = .ok (.iload 5, 2) := by decide +kernel
theorem dX9_found_122 : decode cX9_found 122 = .ok (.iload 4, 2) := by decide +kernel
theorem dX9_found_124 : decode cX9_found 124 = .ok (.imul, 1) := by decide +kernel
theorem dX9_found_125 : decode cX9_found 125 = .ok (.sipush 1000, 3) := by decide +kernel
theorem dX9_found_128 : decode cX9_found 128 = .ok (.idiv, 1) := by decide +kernel
theorem dX9_found_129 : decode cX9_found 129 = .ok (.istore 5, 2) := by decide +kernel
theorem dX9_found_131 : decode cX9_found 131 = .ok (.iinc 6 1, 3) := by decide +kernel
theorem dX9_found_134 : decode cX9_found 134 = .ok (.goto (-20), 3) := by decide +kernel
theorem dX9_found_137 : decode cX9_found 137 = .ok (.iload 5, 2) := by decide +kernel
theorem dX9_found_139 : decode cX9_found 139 = .ok (.ireturn, 1) := by decide +kernel
theorem dX9_year_0 : decode cX9_year 0 = .ok (.iload_n 1, 1) := by decide +kernel
theorem dX9_year_1 : decode cX9_year 1 = .ok (.iconst 0, 1) := by decide +kernel
theorem dX9_year_2 : decode cX9_year 2 = .ok (.sipush 9999, 3) := by decide +kernel
theorem dX9_year_5 : decode cX9_year 5 = .ok (.invokestatic 89, 3) := by decide +kernel
theorem dX9_year_8 : decode cX9_year 8 = .ok (.ifCond .eq 12, 3) := by decide +kernel
theorem dX9_year_11 : decode cX9_year 11 = .ok (.iload_n 2, 1) := by decide +kernel
theorem dX9_year_12 : decode cX9_year 12 = .ok (.iconst 0, 1) := by decide +kernel
theorem dX9_year_13 : decode cX9_year 13 = .ok (.iconst 1, 1) := by decide +kernel
theorem dX9_year_14 : decode cX9_year 14 = .ok (.invokestatic 89, 3) := by decide +kernel
theorem dX9_year_17 : decode cX9_year 17 = .ok (.ifCond .ne 5, 3) := by decide +kernel
theorem dX9_year_20 : decode cX9_year 20 = .ok (.iconst (-1), 1) := by decide +kernel
theorem dX9_year_21 : decode cX9_year 21 = .ok (.ireturn, 1) := by decide +kernel
theorem dX9_year_22 : decode cX9_year 22 = .ok (.aload_n 0, 1) := by decide +kernel
theorem dX9_year_23 : decode cX9_year 23 = .ok (.getfield 58, 3) := by decide +kernel
theorem dX9_year_26 : decode cX9_year 26 = .ok (.getfield 111, 3) := by decide +kernel
theorem dX9_year_29 : decode cX9_year 29 = .ok (.iload_n 1, 1) := by decide +kernel
theorem dX9_year_30 : decode cX9_year 30 = .ok (.putfield 271, 3) := by decide +kernel
theorem dX9_year_33 : decode cX9_year 33 = .ok (.aload_n 0, 1) := by decide +kernel
theorem dX9_year_34 : decode cX9_year 34 = .ok (.getfield 19, 3) := by decide +kernel
theorem dX9_year_37 : decode cX9_year 37 = .ok (.aload_n 0, 1) := by decide +kernel
theorem dX9_year_38 : decode cX9_year 38 = .ok (.getfield 58, 3) := by decide +kernel
theorem dX9_year_41 : decode cX9_year 41 = .ok (.ldc 152, 2) := by decide +kernel
theorem dX9_year_43 : decode cX9_year 43 = .ok (.invokevirtual 153, 3) := by decide +kernel
theorem dX9_year_46 : decode cX9_year 46 = .ok (.aload_n 0, 1) := by decide +kernel
theorem dX9_year_47 : decode cX9_year 47 = .ok (.getfield 58, 3) := by decide +kernel
theorem dX9_year_50 : decode cX9_year 50 = .ok (.getfield 111, 3) := by decide +kernel
theorem dX9_year_53 : decode cX9_year 53 = .ok (.iconst (-1), 1) := by decide +kernel
theorem dX9_year_54 : decode cX9_year 54 = .ok (.putfield 271, 3) := by decide +kernel
theorem dX9_year_57 : decode cX9_year 57 = .ok (.iload_n 2, 1) := by decide +kernel
theorem dX9_year_58 : decode cX9_year 58 = .ok (.ifCond .ne 20, 3) := by decide +kernel
theorem dX9_year_61 : decode cX9_year 61 = .ok (.aload_n 0, 1) := by decide +kernel
theorem dX9_year_62 : decode cX9_year 62 = .ok (.getfield 19, 3) := by decide +kernel
theorem dX9_year_65 : decode cX9_year 65 = .ok (.aload_n 0, 1) := by decide +kernel
theorem dX9_year_66 : decode cX9_year 66 = .ok (.getfield 58, 3) := by decide +kernel
theorem dX9_year_69 : decode cX9_year 69 = .ok (.getfield 104, 3) := by decide +kernel
theorem dX9_year_72 : decode cX9_year 72 = .ok (.invokevirtual 175, 3) := by decide +kernel
theorem dX9_year_75 : decode cX9_year 75 = .ok (.goto 17, 3) := by decide +kernel
theorem dX9_year_78 : decode cX9_year 78 = .ok (.aload_n 0, 1) := by decide +kernel
theorem dX9_year_79 : decode cX9_year 79 = .ok (.getfield 19, 3) := by decide +kernel
theorem dX9_year_82 : decode cX9_year 82 = .ok (.aload_n 0, 1) := by decide +kernel
theorem dX9_year_83 : decode cX9_year 83 = .ok (.getfield 58, 3) := by decide +kernel
theorem dX9_year_86 : decode cX9_year 86 = .ok (.getfield 104, 3) := by decide +kernel
theorem dX9_year_89 : decode cX9_year 89 = .ok (.invokevirtual 187, 3) := by decide +kernel
theorem dX9_year_92 : decode cX9_year 92 = .ok (.ireturn, 1) := by decide +kernel
theorem dX9_keep_0 : decode cX9_keep 0 = .ok (.aload_n 0, 1) := by decide +kernel
theorem dX9_keep_1 : decode cX9_keep 1 = .ok (.getfield 33, 3) := by decide +kernel
theorem dX9_keep_4 : decode cX9_keep 4 = .ok (.aload_n 0, 1) := by decide +kernel
theorem dX9_keep_5 : decode cX9_keep 5 = .ok (.getfield 58, 3) := by decide +kernel
theorem dX9_keep_8 : decode cX9_keep 8 = .ok (.getfield 104, 3) := by decide +kernel
theorem dX9_keep_11 : decode cX9_keep 11 = .ok (.invokevirtual 274, 3) := by decide +kernel
theorem dX9_keep_14 : decode cX9_keep 14 = .ok (.ifCond .eq 13, 3) := by decide +kernel
theorem dX9_keep_17 : decode cX9_keep 17 = .ok (.aload_n 0, 1) := by decide +kernel
theorem dX9_keep_18 : decode cX9_keep 18 = .ok (.getfield 33, 3) := by decide +kernel
theorem dX9_keep_21 : decode cX9_keep 21 = .ok (.getfield 98, 3) := by decide +kernel
theorem dX9_keep_24 : decode cX9_keep 24 = .ok (.goto 5, 3) := by decide +kernel
theorem dX9_keep_27 : decode cX9_keep 27 = .ok (.bipush (-3), 2) := by decide +kernel
theorem dX9_keep_29 : decode cX9_keep 29 = .ok (.ireturn, 1) := by decide +kernel
theorem dX9_back_0 : decode cX9_back 0 = .ok (.aload_n 0, 1) := by decide +kernel
theorem dX9_back_1 : decode cX9_back 1 = .ok (.getfield 33, 3) := by decide +kernel
theorem dX9_back_4 : decode cX9_back 4 = .ok (.getfield 98, 3) := by decide +kernel
theorem dX9_back_7 : decode cX9_back 7 = .ok (.ifCond .ne 6, 3) := by decide +kernel
theorem dX9_back_10 : decode cX9_back 10 = .ok (.bipush (-2), 2) := by decide +kernel
theorem dX9_back_12 : decode cX9_back 12 = .ok (.ireturn, 1) := by decide +kernel
theorem dX9_back_13 : decode cX9_back 13 = .ok (.aload_n 0, 1) := by decide +kernel
theorem dX9_back_14 : decode cX9_back 14 = .ok (.getfield 33, 3) := by decide +kernel
theorem dX9_back_17 : decode cX9_back 17 = .ok (.aload_n 0, 1) := by decide +kernel
theorem dX9_back_18 : decode cX9_back 18 = .ok (.getfield 58, 3) := by decide +kernel
theorem dX9_back_21 : decode cX9_back 21 = .ok (.getfield 104, 3) := by decide +kernel
theorem dX9_back_24 : decode cX9_back 24 = .ok (.invokevirtual 277, 3) := by decide +kernel
theorem dX9_back_27 : decode cX9_back 27 = .ok (.aload_n 0, 1) := by decide +kernel
theorem dX9_back_28 : decode cX9_back 28 = .ok (.getfield 26, 3) := by decide +kernel
theorem dX9_back_31 : decode cX9_back 31 = .ok (.iconst 0, 1) := by decide +kernel
theorem dX9_back_32 : decode cX9_back 32 = .ok (.putfield 97, 3) := by decide +kernel
theorem dX9_back_35 : decode cX9_back 35 = .ok (.aload_n 0, 1) := by decide +kernel
theorem dX9_back_36 : decode cX9_back 36 = .ok (.getfield 47, 3) := by decide +kernel
theorem dX9_back_39 : decode cX9_back 39 = .ok (.iconst 0, 1) := by decide +kernel
theorem dX9_back_40 : decode cX9_back 40 = .ok (.putfield 100, 3) := by decide +kernel
theorem dX9_back_43 : decode cX9_back 43 = .ok (.aload_n 0, 1) := by decide +kernel
theorem dX9_back_44 : decode cX9_back 44 = .ok (.getfield 33, 3) := by decide +kernel
theorem dX9_back_47 : decode cX9_back 47 = .ok (.getfield 98, 3) := by decide +kernel
theorem dX9_back_50 : decode cX9_back 50 = .ok (.ireturn, 1) := by decide +kernel
theorem dX9_count_0 : decode cX9_count 0 = .ok (.iload_n 1, 1) := by decide +kernel
theorem dX9_count_1 : decode cX9_count 1 = .ok (.tableswitch 132 0 8 #[51, 62, 73, 84, 92, 100, 108, 116, 124], 51) := by decide +kernel
theorem dX9_count_52 : decode cX9_count 52 = .ok (.aload_n 0, 1) := by decide +kernel
theorem dX9_count_53 : decode cX9_count 53 = .ok (.getfield 58, 3) := by decide +kernel
theorem dX9_count_56 : decode cX9_count 56 = .ok (.getfield 111, 3) := by decide +kernel
theorem dX9_count_59 : decode cX9_count 59 = .ok (.getfield 237, 3) := by decide +kernel
theorem dX9_count_62 : decode cX9_count 62 = .ok (.ireturn, 1) := by decide +kernel
theorem dX9_count_63 : decode cX9_count 63 = .ok (.aload_n 0, 1) := by decide +kernel
theorem dX9_count_64 : decode cX9_count 64 = .ok (.getfield 58, 3) := by decide +kernel
theorem dX9_count_67 : decode cX9_count 67 = .ok (.getfield 104, 3) := by decide +kernel
theorem dX9_count_70 : decode cX9_count 70 = .ok (.getfield 108, 3) := by decide +kernel
theorem dX9_count_73 : decode cX9_count 73 = .ok (.ireturn, 1) := by decide +kernel
theorem dX9_count_74 : decode cX9_count 74 = .ok (.aload_n 0, 1) := by decide +kernel
theorem dX9_count_75 : decode cX9_count 75 = .ok (.getfield 58, 3) := by decide +kernel
theorem dX9_count_78 : decode cX9_count 78 = .ok (.getfield 111, 3) := by decide +kernel
theorem dX9_count_81 : decode cX9_count 81 = .ok (.getfield 280, 3) := by decide +kernel
theorem dX9_count_84 : decode cX9_count 84 = .ok (.ireturn, 1) := by decide +kernel
theorem dX9_count_85 : decode cX9_count 85 = .ok (.aload_n 0, 1) := by decide +kernel
theorem dX9_count_86 : decode cX9_count 86 = .ok (.getfield 58, 3) := by decide +kernel
theorem dX9_count_89 : decode cX9_count 89 = .ok (.getfield 283, 3) := by decide +kernel
theorem dX9_count_92 : decode cX9_count 92 = .ok (.ireturn, 1) := by decide +kernel
theorem dX9_count_93 : decode cX9_count 93 = .ok (.aload_n 0, 1) := by decide +kernel
theorem dX9_count_94 : decode cX9_count 94 = .ok (.getfield 58, 3) := by decide +kernel
theorem dX9_count_97 : decode cX9_count 97 = .ok (.getfield 221, 3) := by decide +kernel
theorem dX9_count_100 : decode cX9_count 100 = .ok (.ireturn, 1) := by decide +kernel
theorem dX9_count_101 : decode cX9_count 101 = .ok (.aload_n 0, 1) := by decide +kernel
theorem dX9_count_102 : decode cX9_count 102 = .ok (.getfield 40, 3) := by decide +kernel
theorem dX9_count_105 : decode cX9_count 105 = .ok (.getfield 99, 3) := by decide +kernel
theorem dX9_count_108 : decode cX9_count 108 = .ok (.ireturn, 1) := by decide +kernel
theorem dX9_count_109 : decode cX9_count 109 = .ok (.aload_n 0, 1) := by decide +kernel
theorem dX9_count_110 : decode cX9_count 110 = .ok (.getfield 26, 3) := by decide +kernel
theorem dX9_count_113 : decode cX9_count 113 = .ok (.getfield 97, 3) := by decide +kernel
theorem dX9_count_116 : decode cX9_count 116 = .ok (.ireturn, 1) := by decide +kernel
theorem dX9_count_117 : decode cX9_count 117 = .ok (.aload_n 0, 1) := by decide +kernel
theorem dX9_count_118 : decode cX9_count 118 = .ok (.getfield 33, 3) := by decide +kernel
theorem dX9_count_121 : decode cX9_count 121 = .ok (.getfield 98, 3) := by decide +kernel
theorem dX9_count_124 : decode cX9_count 124 = .ok (.ireturn, 1) := by decide +kernel
theorem dX9_count_125 : decode cX9_count 125 = .ok (.aload_n 0, 1) := by decide +kernel
theorem dX9_count_126 : decode cX9_count 126 = .ok (.getfield 10, 3) := by decide +kernel
theorem dX9_count_129 : decode cX9_count 129 = .ok (.getfield 85, 3) := by decide +kernel
theorem dX9_count_132 : decode cX9_count 132 = .ok (.ireturn, 1) := by decide +kernel
theorem dX9_count_133 : decode cX9_count 133 = .ok (.iconst (-1), 1) := by decide +kernel
theorem dX9_count_134 : decode cX9_count 134 = .ok (.ireturn, 1) := by decide +kernel
theorem dX9_isWithin_0 : decode cX9_isWithin 0 = .ok (.iload_n 0, 1) := by decide +kernel
theorem dX9_isWithin_1 : decode cX9_isWithin 1 = .ok (.iload_n 1, 1) := by decide +kernel
theorem dX9_isWithin_2 : decode cX9_isWithin 2 = .ok (.if_icmp .lt 12, 3) := by decide +kernel
theorem dX9_isWithin_5 : decode cX9_isWithin 5 = .ok (.iload_n 0, 1) := by decide +kernel
theorem dX9_isWithin_6 : decode cX9_isWithin 6 = .ok (.iload_n 2, 1) := by decide +kernel
theorem dX9_isWithin_7 : decode cX9_isWithin 7 = .ok (.if_icmp .gt 7, 3) := by decide +kernel
theorem dX9_isWithin_10 : decode cX9_isWithin 10 = .ok (.iconst 1, 1) := by decide +kernel
theorem dX9_isWithin_11 : decode cX9_isWithin 11 = .ok (.goto 4, 3) := by decide +kernel
theorem dX9_isWithin_14 : decode cX9_isWithin 14 = .ok (.iconst 0, 1) := by decide +kernel
theorem dX9_isWithin_15 : decode cX9_isWithin 15 = .ok (.ireturn, 1) := by decide +kernel
theorem dX9_isNight_0 : decode cX9_isNight 0 = .ok (.iload_n 0, 1) := by decide +kernel
theorem dX9_isNight_1 : decode cX9_isNight 1 = .ok (.iconst 0, 1) := by decide +kernel
theorem dX9_isNight_2 : decode cX9_isNight 2 = .ok (.bipush 29, 2) := by decide +kernel
theorem dX9_isNight_4 : decode cX9_isNight 4 = .ok (.invokestatic 89, 3) := by decide +kernel
theorem dX9_isNight_7 : decode cX9_isNight 7 = .ok (.ireturn, 1) := by decide +kernel
theorem dX9_isLength_0 : decode cX9_isLength 0 = .ok (.iload_n 0, 1) := by decide +kernel
theorem dX9_isLength_1 : decode cX9_isLength 1 = .ok (.bipush 40, 2) := by decide +kernel
theorem dX9_isLength_3 : decode cX9_isLength 3 = .ok (.bipush 99, 2) := by decide +kernel
theorem dX9_isLength_5 : decode cX9_isLength 5 = .ok (.invokestatic 89, 3) := by decide +kernel
theorem dX9_isLength_8 : decode cX9_isLength 8 = .ok (.ireturn, 1) := by decide +kernel
theorem dX9_isIn_0 : decode cX9_isIn 0 = .ok (.iload_n 0, 1) := by decide +kernel
theorem dX9_isIn_1 : decode cX9_isIn 1 = .ok (.iload_n 1, 1) := by decide +kernel
theorem dX9_isIn_2 : decode cX9_isIn 2 = .ok (.ishr, 1) := by decide +kernel
theorem dX9_isIn_3 : decode cX9_isIn 3 = .ok (.iconst 1, 1) := by decide +kernel
theorem dX9_isIn_4 : decode cX9_isIn 4 = .ok (.iand, 1) := by decide +kernel
theorem dX9_isIn_5 : decode cX9_isIn 5 = .ok (.iconst 1, 1) := by decide +kernel
theorem dX9_isIn_6 : decode cX9_isIn 6 = .ok (.if_icmp .ne 7, 3) := by decide +kernel
theorem dX9_isIn_9 : decode cX9_isIn 9 = .ok (.iconst 1, 1) := by decide +kernel
theorem dX9_isIn_10 : decode cX9_isIn 10 = .ok (.goto 4, 3) := by decide +kernel
theorem dX9_isIn_13 : decode cX9_isIn 13 = .ok (.iconst 0, 1) := by decide +kernel
theorem dX9_isIn_14 : decode cX9_isIn 14 = .ok (.ireturn, 1) := by decide +kernel
theorem dX9_noteChange_0 : decode cX9_noteChange 0 = .ok (.aload_n 0, 1) := by decide +kernel
theorem dX9_noteChange_1 : decode cX9_noteChange 1 = .ok (.getfield 26, 3) := by decide +kernel
theorem dX9_noteChange_4 : decode cX9_noteChange 4 = .ok (.iload_n 1, 1) := by decide +kernel
theorem dX9_noteChange_5 : decode cX9_noteChange 5 = .ok (.iload_n 2, 1) := by decide +kernel
theorem dX9_noteChange_6 : decode cX9_noteChange 6 = .ok (.iload_n 3, 1) := by decide +kernel
theorem dX9_noteChange_7 : decode cX9_noteChange 7 = .ok (.invokevirtual 286, 3) := by decide +kernel
theorem dX9_noteChange_10 : decode cX9_noteChange 10 = .ok (.aload_n 0, 1) := by decide +kernel
theorem dX9_noteChange_11 : decode cX9_noteChange 11 = .ok (.getfield 47, 3) := by decide +kernel
theorem dX9_noteChange_14 : decode cX9_noteChange 14 = .ok (.iconst 0, 1) := by decide +kernel
theorem dX9_noteChange_15 : decode cX9_noteChange 15 = .ok (.putfield 100, 3) := by decide +kernel
theorem dX9_noteChange_18 : decode cX9_noteChange 18 = .ok (.return_, 1) := by decide +kernel
theorem dX9_sumBelow_0 : decode cX9_sumBelow 0 = .ok (.aload_n 0, 1) := by decide +kernel
theorem dX9_sumBelow_1 : decode cX9_sumBelow 1 = .ok (.getfield 19, 3) := by decide +kernel
theorem dX9_sumBelow_4 : decode cX9_sumBelow 4 = .ok (.aload_n 0, 1) := by decide +kernel
theorem dX9_sumBelow_5 : decode cX9_sumBelow 5 = .ok (.getfield 58, 3) := by decide +kernel
theorem dX9_sumBelow_8 : decode cX9_sumBelow 8 = .ok (.iload_n 1, 1) := by decide +kernel
theorem dX9_sumBelow_9 : decode cX9_sumBelow 9 = .ok (.invokevirtual 153, 3) := by decide +kernel
theorem dX9_sumBelow_12 : decode cX9_sumBelow 12 = .ok (.aload_n 0, 1) := by decide +kernel
theorem dX9_sumBelow_13 : decode cX9_sumBelow 13 = .ok (.getfield 19, 3) := by decide +kernel
theorem dX9_sumBelow_16 : decode cX9_sumBelow 16 = .ok (.aload_n 0, 1) := by decide +kernel
theorem dX9_sumBelow_17 : decode cX9_sumBelow 17 = .ok (.getfield 58, 3) := by decide +kernel
theorem dX9_sumBelow_20 : decode cX9_sumBelow 20 = .ok (.getfield 104, 3) := by decide +kernel
theorem dX9_sumBelow_23 : decode cX9_sumBelow 23 = .ok (.invokevirtual 175, 3) := by decide +kernel
theorem dX9_sumBelow_26 : decode cX9_sumBelow 26 = .ok (.ireturn, 1) := by decide +kernel
theorem dX9_noteHarmsNow_0 : decode cX9_noteHarmsNow 0 = .ok (.aload_n 0, 1) := by decide +kernel
theorem dX9_noteHarmsNow_1 : decode cX9_noteHarmsNow 1 = .ok (.getfield 19, 3) := by decide +kernel
theorem dX9_noteHarmsNow_4 : decode cX9_noteHarmsNow 4 = .ok (.aload_n 0, 1) := by decide +kernel
theorem dX9_noteHarmsNow_5 : decode cX9_noteHarmsNow 5 = .ok (.getfield 58, 3) := by decide +kernel
theorem dX9_noteHarmsNow_8 : decode cX9_noteHarmsNow 8 = .ok (.ldc 152, 2) := by decide +kernel
theorem dX9_noteHarmsNow_10 : decode cX9_noteHarmsNow 10 = .ok (.invokevirtual 153, 3) := by decide +kernel
theorem dX9_noteHarmsNow_13 : decode cX9_noteHarmsNow 13 = .ok (.aload_n 0, 1) := by decide +kernel
theorem dX9_noteHarmsNow_14 : decode cX9_noteHarmsNow 14 = .ok (.getfield 19, 3) := by decide +kernel
theorem dX9_noteHarmsNow_17 : decode cX9_noteHarmsNow 17 = .ok (.getfield 166, 3) := by decide +kernel
theorem dX9_noteHarmsNow_20 : decode cX9_noteHarmsNow 20 = .ok (.iconst 0, 1) := by decide +kernel
theorem dX9_noteHarmsNow_21 : decode cX9_noteHarmsNow 21 = .ok (.aload_n 0, 1) := by decide +kernel
theorem dX9_noteHarmsNow_22 : decode cX9_noteHarmsNow 22 = .ok (.getfield 51, 3) := by decide +kernel
theorem dX9_noteHarmsNow_25 : decode cX9_noteHarmsNow 25 = .ok (.iconst 0, 1) := by decide +kernel
theorem dX9_noteHarmsNow_26 : decode cX9_noteHarmsNow 26 = .ok (.bipush 7, 2) := by decide +kernel
theorem dX9_noteHarmsNow_28 : decode cX9_noteHarmsNow 28 = .ok (.invokestatic 289, 3) := by decide +kernel
theorem dX9_noteHarmsNow_31 : decode cX9_noteHarmsNow 31 = .ok (.aload_n 0, 1) := by decide +kernel
theorem dX9_noteHarmsNow_32 : decode cX9_noteHarmsNow 32 = .ok (.getfield 19, 3) := by decide +kernel
theorem dX9_noteHarmsNow_35 : decode cX9_noteHarmsNow 35 = .ok (.getfield 179, 3) := by decide +kernel
theorem dX9_noteHarmsNow_38 : decode cX9_noteHarmsNow 38 = .ok (.ireturn, 1) := by decide +kernel
theorem dX9_wouldSwap_0 : decode cX9_wouldSwap 0 = .ok (.aload_n 0, 1) := by decide +kernel
theorem dX9_wouldSwap_1 : decode cX9_wouldSwap 1 = .ok (.getfield 58, 3) := by decide +kernel
theorem dX9_wouldSwap_4 : decode cX9_wouldSwap 4 = .ok (.getfield 104, 3) := by decide +kernel
theorem dX9_wouldSwap_7 : decode cX9_wouldSwap 7 = .ok (.iload_n 1, 1) := by decide +kernel
theorem dX9_wouldSwap_8 : decode cX9_wouldSwap 8 = .ok (.iload_n 2, 1) := by decide +kernel
theorem dX9_wouldSwap_9 : decode cX9_wouldSwap 9 = .ok (.invokevirtual 295, 3) := by decide +kernel
theorem dX9_wouldSwap_12 : decode cX9_wouldSwap 12 = .ok (.aload_n 0, 1) := by decide +kernel
theorem dX9_wouldSwap_13 : decode cX9_wouldSwap 13 = .ok (.getfield 19, 3) := by decide +kernel
theorem dX9_wouldSwap_16 : decode cX9_wouldSwap 16 = .ok (.aload_n 0, 1) := by decide +kernel
theorem dX9_wouldSwap_17 : decode cX9_wouldSwap 17 = .ok (.getfield 58, 3) := by decide +kernel
theorem dX9_wouldSwap_20 : decode cX9_wouldSwap 20 = .ok (.ldc 152, 2) := by decide +kernel
theorem dX9_wouldSwap_22 : decode cX9_wouldSwap 22 = .ok (.invokevirtual 153, 3) := by decide +kernel
theorem dX9_wouldSwap_25 : decode cX9_wouldSwap 25 = .ok (.aload_n 0, 1) := by decide +kernel
theorem dX9_wouldSwap_26 : decode cX9_wouldSwap 26 = .ok (.getfield 58, 3) := by decide +kernel
theorem dX9_wouldSwap_29 : decode cX9_wouldSwap 29 = .ok (.getfield 104, 3) := by decide +kernel
theorem dX9_wouldSwap_32 : decode cX9_wouldSwap 32 = .ok (.iload_n 1, 1) := by decide +kernel
theorem dX9_wouldSwap_33 : decode cX9_wouldSwap 33 = .ok (.iload_n 2, 1) := by decide +kernel
theorem dX9_wouldSwap_34 : decode cX9_wouldSwap 34 = .ok (.invokevirtual 295, 3) := by decide +kernel
theorem dX9_wouldSwap_37 : decode cX9_wouldSwap 37 = .ok (.aload_n 0, 1) := by decide +kernel
theorem dX9_wouldSwap_38 : decode cX9_wouldSwap 38 = .ok (.getfield 19, 3) := by decide +kernel
theorem dX9_wouldSwap_41 : decode cX9_wouldSwap 41 = .ok (.iload_n 1, 1) := by decide +kernel
theorem dX9_wouldSwap_42 : decode cX9_wouldSwap 42 = .ok (.invokevirtual 157, 3) := by decide +kernel
theorem dX9_wouldSwap_45 : decode cX9_wouldSwap 45 = .ok (.ifCond .eq 54, 3) := by decide +kernel
theorem dX9_wouldSwap_48 : decode cX9_wouldSwap 48 = .ok (.aload_n 0, 1) := by decide +kernel
theorem dX9_wouldSwap_49 : decode cX9_wouldSwap 49 = .ok (.getfield 19, 3) := by decide +kernel
theorem dX9_wouldSwap_52 : decode cX9_wouldSwap 52 = .ok (.iload_n 2, 1) := by decide +kernel
theorem dX9_wouldSwap_53 : decode cX9_wouldSwap 53 = .ok (.invokevirtual 157, 3) := by decide +kernel
theorem dX9_wouldSwap_56 : decode cX9_wouldSwap 56 = .ok (.ifCond .eq 43, 3) := by decide +kernel
theorem dX9_wouldSwap_59 : decode cX9_wouldSwap 59 = .ok (.aload_n 0, 1) := by decide +kernel
theorem dX9_wouldSwap_60 : decode cX9_wouldSwap 60 = .ok (.getfield 19, 3) := by decide +kernel
theorem dX9_wouldSwap_63 : decode cX9_wouldSwap 63 = .ok (.getfield 166, 3) := by decide +kernel
theorem dX9_wouldSwap_66 : decode cX9_wouldSwap 66 = .ok (.iload_n 1, 1) := by decide +kernel
theorem dX9_wouldSwap_67 : decode cX9_wouldSwap 67 = .ok (.iaload, 1) := by decide +kernel
theorem dX9_wouldSwap_68 : decode cX9_wouldSwap 68 = .ok (.aload_n 0, 1) := by decide +kernel
theorem dX9_wouldSwap_69 : decode cX9_wouldSwap 69 = .ok (.getfield 51, 3) := by decide +kernel
theorem dX9_wouldSwap_72 : decode cX9_wouldSwap 72 = .ok (.iload_n 1, 1) := by decide +kernel
theorem dX9_wouldSwap_73 : decode cX9_wouldSwap 73 = .ok (.iaload, 1) := by decide +kernel
theorem dX9_wouldSwap_74 : decode cX9_wouldSwap 74 = .ok (.if_icmp .ge 25, 3) := by decide +kernel
theorem dX9_wouldSwap_77 : decode cX9_wouldSwap 77 = .ok (.aload_n 0, 1) := by decide +kernel
theorem dX9_wouldSwap_78 : decode cX9_wouldSwap 78 = .ok (.getfield 19, 3) := by decide +kernel
theorem dX9_wouldSwap_81 : decode cX9_wouldSwap 81 = .ok (.getfield 166, 3) := by decide +kernel
theorem dX9_wouldSwap_84 : decode cX9_wouldSwap 84 = .ok (.iload_n 2, 1) := by decide +kernel
theorem dX9_wouldSwap_85 : decode cX9_wouldSwap 85 = .ok (.iaload, 1) := by decide +kernel
theorem dX9_wouldSwap_86 : decode cX9_wouldSwap 86 = .ok (.aload_n 0, 1) := by decide +kernel
theorem dX9_wouldSwap_87 : decode cX9_wouldSwap 87 = .ok (.getfield 51, 3) := by decide +kernel
theorem dX9_wouldSwap_90 : decode cX9_wouldSwap 90 = .ok (.iload_n 2, 1) := by decide +kernel
theorem dX9_wouldSwap_91 : decode cX9_wouldSwap 91 = .ok (.iaload, 1) := by decide +kernel
theorem dX9_wouldSwap_92 : decode cX9_wouldSwap 92 = .ok (.if_icmp .ge 7, 3) := by decide +kernel
theorem dX9_wouldSwap_95 : decode cX9_wouldSwap 95 = .ok (.iconst 1, 1) := by decide +kernel
theorem dX9_wouldSwap_96 : decode cX9_wouldSwap 96 = .ok (.goto 4, 3) := by decide +kernel
theorem dX9_wouldSwap_99 : decode cX9_wouldSwap 99 = .ok (.iconst 0, 1) := by decide +kernel
theorem dX9_wouldSwap_100 : decode cX9_wouldSwap 100 = .ok (.ireturn, 1) := by decide +kernel
theorem dX10_init_0 : decode cX10_init 0 = .ok (.aload_n 0, 1) := by decide +kernel
theorem dX10_init_1 : decode cX10_init 1 = .ok (.invokespecial 1, 3) := by decide +kernel
theorem dX10_init_4 : decode cX10_init 4 = .ok (.aload_n 0, 1) := by decide +kernel
theorem dX10_init_5 : decode cX10_init 5 = .ok (.iconst 4, 1) := by decide +kernel
theorem dX10_init_6 : decode cX10_init 6 = .ok (.newarray .int, 2) := by decide +kernel
theorem dX10_init_8 : decode cX10_init 8 = .ok (.putfield 7, 3) := by decide +kernel
theorem dX10_init_11 : decode cX10_init 11 = .ok (.aload_n 0, 1) := by decide +kernel
theorem dX10_init_12 : decode cX10_init 12 = .ok (.iconst 2, 1) := by decide +kernel
theorem dX10_init_13 : decode cX10_init 13 = .ok (.putfield 13, 3) := by decide +kernel
theorem dX10_init_16 : decode cX10_init 16 = .ok (.aload_n 0, 1) := by decide +kernel
theorem dX10_init_17 : decode cX10_init 17 = .ok (.bipush 30, 2) := by decide +kernel
theorem dX10_init_19 : decode cX10_init 19 = .ok (.newarray .int, 2) := by decide +kernel
theorem dX10_init_21 : decode cX10_init 21 = .ok (.putfield 17, 3) := by decide +kernel
theorem dX10_init_24 : decode cX10_init 24 = .ok (.aload_n 0, 1) := by decide +kernel
theorem dX10_init_25 : decode cX10_init 25 = .ok (.bipush 7, 2) := by decide +kernel
theorem dX10_init_27 : decode cX10_init 27 = .ok (.newarray .int, 2) := by decide +kernel
theorem dX10_init_29 : decode cX10_init 29 = .ok (.putfield 20, 3) := by decide +kernel
theorem dX10_init_32 : decode cX10_init 32 = .ok (.aload_n 0, 1) := by decide +kernel
theorem dX10_init_33 : decode cX10_init 33 = .ok (.bipush 7, 2) := by decide +kernel
theorem dX10_init_35 : decode cX10_init 35 = .ok (.newarray .int, 2) := by decide +kernel
theorem dX10_init_37 : decode cX10_init 37 = .ok (.putfield 23, 3) := by decide +kernel
theorem dX10_init_40 : decode cX10_init 40 = .ok (.aload_n 0, 1) := by decide +kernel
theorem dX10_init_41 : decode cX10_init 41 = .ok (.bipush 7, 2) := by decide +kernel
theorem dX10_init_43 : decode cX10_init 43 = .ok (.newarray .int, 2) := by decide +kernel
theorem dX10_init_45 : decode cX10_init 45 = .ok (.putfield 26, 3) := by decide +kernel
theorem dX10_init_48 : decode cX10_init 48 = .ok (.aload_n 0, 1) := by decide +kernel
theorem dX10_init_49 : decode cX10_init 49 = .ok (.iconst 3, 1) := by decide +kernel
theorem dX10_init_50 : decode cX10_init 50 = .ok (.putfield 29, 3) := by decide +kernel
theorem dX10_init_53 : decode cX10_init 53 = .ok (.aload_n 0, 1) := by decide +kernel
theorem dX10_init_54 : decode cX10_init 54 = .ok (.iconst 4, 1) := by decide +kernel
theorem dX10_init_55 : decode cX10_init 55 = .ok (.newarray .int, 2) := by decide +kernel
theorem dX10_init_57 : decode cX10_init 57 = .ok (.putfield 32, 3) := by decide +kernel
theorem dX10_init_60 : decode cX10_init 60 = .ok (.aload_n 0, 1) := by decide +kernel
theorem dX10_init_61 : decode cX10_init 61 = .ok (.iconst 1, 1) := by decide +kernel
theorem dX10_init_62 : decode cX10_init 62 = .ok (.putfield 35, 3) := by decide +kernel
theorem dX10_init_65 : decode cX10_init 65 = .ok (.aload_n 0, 1) := by decide +kernel
theorem dX10_init_66 : decode cX10_init 66 = .ok (.bipush 21, 2) := by decide +kernel
theorem dX10_init_68 : decode cX10_init 68 = .ok (.newarray .int, 2) := by decide +kernel
theorem dX10_init_70 : decode cX10_init 70 = .ok (.putfield 38, 3) := by decide +kernel
theorem dX10_init_73 : decode cX10_init 73 = .ok (.aload_n 0, 1) := by decide +kernel
theorem dX10_init_74 : decode cX10_init 74 = .ok (.sipush 200, 3) := by decide +kernel
theorem dX10_init_77 : decode cX10_init 77 = .ok (.newarray .int, 2) := by decide +kernel
theorem dX10_init_79 : decode cX10_init 79 = .ok (.putfield 41, 3) := by decide +kernel
theorem dX10_init_82 : decode cX10_init 82 = .ok (.aload_n 0, 1) := by decide +kernel
theorem dX10_init_83 : decode cX10_init 83 = .ok (.iconst 3, 1) := by decide +kernel
theorem dX10_init_84 : decode cX10_init 84 = .ok (.newarray .int, 2) := by decide +kernel
theorem dX10_init_86 : decode cX10_init 86 = .ok (.putfield 44, 3) := by decide +kernel
theorem dX10_init_89 : decode cX10_init 89 = .ok (.aload_n 0, 1) := by decide +kernel
theorem dX10_init_90 : decode cX10_init 90 = .ok (.iconst 4, 1) := by decide +kernel
theorem dX10_init_91 : decode cX10_init 91 = .ok (.newarray .int, 2) := by decide +kernel
theorem dX10_init_93 : decode cX10_init 93 = .ok (.putfield 47, 3) := by decide +kernel
theorem dX10_init_96 : decode cX10_init 96 = .ok (.aload_n 0, 1) := by decide +kernel
theorem dX10_init_97 : decode cX10_init 97 = .ok (.bipush 30, 2) := by decide +kernel
theorem dX10_init_99 : decode cX10_init 99 = .ok (.newarray .int, 2) := by decide +kernel
theorem dX10_init_101 : decode cX10_init 101 = .ok (.putfield 50, 3) := by decide +kernel
theorem dX10_init_104 : decode cX10_init 104 = .ok (.aload_n 0, 1) := by decide +kernel
theorem dX10_init_105 : decode cX10_init 105 = .ok (.bipush 21, 2) := by decide +kernel
theorem dX10_init_107 : decode cX10_init 107 = .ok (.newarray .int, 2) := by decide +kernel
theorem dX10_init_109 : decode cX10_init 109 = .ok (.putfield 53, 3) := by decide +kernel
theorem dX10_init_112 : decode cX10_init 112 = .ok (.aload_n 0, 1) := by decide +kernel
theorem dX10_init_113 : decode cX10_init 113 = .ok (.bipush 7, 2) := by decide +kernel
theorem dX10_init_115 : decode cX10_init 115 = .ok (.newarray .int, 2) := by decide +kernel
theorem dX10_init_117 : decode cX10_init 117 = .ok (.putfield 56, 3) := by decide +kernel
theorem dX10_init_120 : decode cX10_init 120 = .ok (.aload_n 0, 1) := by decide +kernel
theorem dX10_init_121 : decode cX10_init 121 = .ok (.iconst 4, 1) := by decide +kernel
theorem dX10_init_122 : decode cX10_init 122 = .ok (.newarray .int, 2) := by decide +kernel
theorem dX10_init_124 : decode cX10_init 124 = .ok (.putfield 59, 3) := by decide +kernel
theorem dX10_init_127 : decode cX10_init 127 = .ok (.aload_n 0, 1) := by decide +kernel
theorem dX10_init_128 : decode cX10_init 128 = .ok (.iconst (-1), 1) := by decide +kernel
theorem dX10_init_129 : decode cX10_init 129 = .ok (.putfield 62, 3) := by decide +kernel
theorem dX10_init_132 : decode cX10_init 132 = .ok (.aload_n 0, 1) := by decide +kernel
theorem dX10_init_133 : decode cX10_init 133 = .ok (.bipush 7, 2) := by decide +kernel
theorem dX10_init_135 : decode cX10_init 135 = .ok (.newarray .int, 2) := by decide +kernel
theorem dX10_init_137 : decode cX10_init 137 = .ok (.putfield 65, 3) := by decide +kernel
theorem dX10_init_140 : decode cX10_init 140 = .ok (.aload_n 0, 1) := by decide +kernel
theorem dX10_init_141 : decode cX10_init 141 = .ok (.bipush 7, 2) := by decide +kernel
theorem dX10_init_143 : decode cX10_init 143 = .ok (.newarray .int, 2) := by decide +kernel
theorem dX10_init_145 : decode cX10_init 145 = .ok (.putfield 68, 3) := by decide +kernel
theorem dX10_init_148 : decode cX10_init 148 = .ok (.aload_n 0, 1) := by decide +kernel
theorem dX10_init_149 : decode cX10_init 149 = .ok (.bipush 7, 2) := by decide +kernel
theorem dX10_init_151 : decode cX10_init 151 = .ok (.newarray .int, 2) := by decide +kernel
theorem dX10_init_153 : decode cX10_init 153 = .ok (.putfield 71, 3) := by decide +kernel
theorem dX10_init_156 : decode cX10_init 156 = .ok (.aload_n 0, 1) := by decide +kernel
theorem dX10_init_157 : decode cX10_init 157 = .ok (.bipush 7, 2) := by decide +kernel
theorem dX10_init_159 : decode cX10_init 159 = .ok (.newarray .int, 2) := by decide +kernel
theorem dX10_init_161 : decode cX10_init 161 = .ok (.putfield 74, 3) := by decide +kernel
theorem dX10_init_164 : decode cX10_init 164 = .ok (.aload_n 0, 1) := by decide +kernel
theorem dX10_init_165 : decode cX10_init 165 = .ok (.bipush 7, 2) := by decide +kernel
theorem dX10_init_167 : decode cX10_init 167 = .ok (.newarray .int, 2) := by decide +kernel
theorem dX10_init_169 : decode cX10_init 169 = .ok (.putfield 77, 3) := by decide +kernel
theorem dX10_init_172 : decode cX10_init 172 = .ok (.aload_n 0, 1) := by decide +kernel
theorem dX10_init_173 : decode cX10_init 173 = .ok (.sipush 168, 3) := by decide +kernel
theorem dX10_init_176 : decode cX10_init 176 = .ok (.newarray .int, 2) := by decide +kernel
theorem dX10_init_178 : decode cX10_init 178 = .ok (.putfield 80, 3) := by decide +kernel
theorem dX10_init_181 : decode cX10_init 181 = .ok (.aload_n 0, 1) := by decide +kernel
theorem dX10_init_182 : decode cX10_init 182 = .ok (.bipush 7, 2) := by decide +kernel
theorem dX10_init_184 : decode cX10_init 184 = .ok (.newarray .int, 2) := by decide +kernel
theorem dX10_init_186 : decode cX10_init 186 = .ok (.putfield 83, 3) := by decide +kernel
theorem dX10_init_189 : decode cX10_init 189 = .ok (.aload_n 0, 1) := by decide +kernel
theorem dX10_init_190 : decode cX10_init 190 = .ok (.bipush 7, 2) := by decide +kernel
theorem dX10_init_192 : decode cX10_init 192 = .ok (.newarray .int, 2) := by decide +kernel
theorem dX10_init_194 : decode cX10_init 194 = .ok (.putfield 86, 3) := by decide +kernel
theorem dX10_init_197 : decode cX10_init 197 = .ok (.aload_n 0, 1) := by decide +kernel
theorem dX10_init_198 : decode cX10_init 198 = .ok (.bipush 18, 2) := by decide +kernel
theorem dX10_init_200 : decode cX10_init 200 = .ok (.newarray .int, 2) := by decide +kernel
theorem dX10_init_202 : decode cX10_init 202 = .ok (.putfield 89, 3) := by decide +kernel
theorem dX10_init_205 : decode cX10_init 205 = .ok (.aload_n 0, 1) := by decide +kernel
theorem dX10_init_206 : decode cX10_init 206 = .ok (.sipush 128, 3) := by decide +kernel
theorem dX10_init_209 : decode cX10_init 209 = .ok (.newarray .int, 2) := by decide +kernel
theorem dX10_init_211 : decode cX10_init 211 = .ok (.putfield 92, 3) := by decide +kernel
theorem dX10_init_214 : decode cX10_init 214 = .ok (.aload_n 0, 1) := by decide +kernel
theorem dX10_init_215 : decode cX10_init 215 = .ok (.sipush 128, 3) := by decide +kernel
theorem dX10_init_218 : decode cX10_init 218 = .ok (.newarray .int, 2) := by decide +kernel
theorem dX10_init_220 : decode cX10_init 220 = .ok (.putfield 95, 3) := by decide +kernel
theorem dX10_init_223 : decode cX10_init 223 = .ok (.aload_n 0, 1) := by decide +kernel
theorem dX10_init_224 : decode cX10_init 224 = .ok (.bipush 42, 2) := by decide +kernel
theorem dX10_init_226 : decode cX10_init 226 = .ok (.newarray .int, 2) := by decide +kernel
theorem dX10_init_228 : decode cX10_init 228 = .ok (.putfield 98, 3) := by decide +kernel
theorem dX10_init_231 : decode cX10_init 231 = .ok (.aload_n 0, 1) := by decide +kernel
theorem dX10_init_232 : decode cX10_init 232 = .ok (.getfield 7, 3) := by decide +kernel
theorem dX10_init_235 : decode cX10_init 235 = .ok (.iconst 0, 1) := by decide +kernel
theorem dX10_init_236 : decode cX10_init 236 = .ok (.bipush 60, 2) := by decide +kernel
theorem dX10_init_238 : decode cX10_init 238 = .ok (.iastore, 1) := by decide +kernel
theorem dX10_init_239 : decode cX10_init 239 = .ok (.aload_n 0, 1) := by decide +kernel
theorem dX10_init_240 : decode cX10_init 240 = .ok (.getfield 7, 3) := by decide +kernel
theorem dX10_init_243 : decode cX10_init 243 = .ok (.iconst 1, 1) := by decide +kernel
theorem dX10_init_244 : decode cX10_init 244 = .ok (.bipush 72, 2) := by decide +kernel
theorem dX10_init_246 : decode cX10_init 246 = .ok (.iastore, 1) := by decide +kernel
theorem dX10_init_247 : decode cX10_init 247 = .ok (.aload_n 0, 1) := by decide +kernel
theorem dX10_init_248 : decode cX10_init 248 = .ok (.getfield 20, 3) := by decide +kernel
theorem dX10_init_251 : decode cX10_init 251 = .ok (.iconst 0, 1) := by decide +kernel
theorem dX10_init_252 : decode cX10_init 252 = .ok (.bipush 66, 2) := by decide +kernel
theorem dX10_init_254 : decode cX10_init 254 = .ok (.iastore, 1) := by decide +kernel
theorem dX10_init_255 : decode cX10_init 255 = .ok (.aload_n 0, 1) := by decide +kernel
theorem dX10_init_256 : decode cX10_init 256 = .ok (.getfield 20, 3) := by decide +kernel
theorem dX10_init_259 : decode cX10_init 259 = .ok (.iconst 1, 1) := by decide +kernel
theorem dX10_init_260 : decode cX10_init 260 = .ok (.bipush 60, 2) := by decide +kernel
theorem dX10_init_262 : decode cX10_init 262 = .ok (.iastore, 1) := by decide +kernel
theorem dX10_init_263 : decode cX10_init 263 = .ok (.aload_n 0, 1) := by decide +kernel
theorem dX10_init_264 : decode cX10_init 264 = .ok (.getfield 20, 3) := by decide +kernel
theorem dX10_init_267 : decode cX10_init 267 = .ok (.iconst 2, 1) := by decide +kernel
theorem dX10_init_268 : decode cX10_init 268 = .ok (.bipush 75, 2) := by decide +kernel
theorem dX10_init_270 : decode cX10_init 270 = .ok (.iastore, 1) := by decide +kernel
theorem dX10_init_271 : decode cX10_init 271 = .ok (.aload_n 0, 1) := by decide +kernel
theorem dX10_init_272 : decode cX10_init 272 = .ok (.getfield 26, 3) := by decide +kernel
theorem dX10_init_275 : decode cX10_init 275 = .ok (.iconst 0, 1) := by decide +kernel
theorem dX10_init_276 : decode cX10_init 276 = .ok (.bipush 6, 2) := by decide +kernel
theorem dX10_init_278 : decode cX10_init 278 = .ok (.iastore, 1) := by decide +kernel
theorem dX10_init_279 : decode cX10_init 279 = .ok (.iconst 0, 1) := by decide +kernel
theorem dX10_init_280 : decode cX10_init 280 = .ok (.istore_n 1, 1) := by decide +kernel
theorem dX10_init_281 : decode cX10_init 281 = .ok (.iload_n 1, 1) := by decide +kernel
theorem dX10_init_282 : decode cX10_init 282 = .ok (.bipush 7, 2) := by decide +kernel
theorem dX10_init_284 : decode cX10_init 284 = .ok (.if_icmp .ge 16, 3) := by decide +kernel
theorem dX10_init_287 : decode cX10_init 287 = .ok (.aload_n 0, 1) := by decide +kernel
theorem dX10_init_288 : decode cX10_init 288 = .ok (.getfield 38, 3) := by decide +kernel
theorem dX10_init_291 : decode cX10_init 291 = .ok (.iload_n 1, 1) := by decide +kernel
theorem dX10_init_292 : decode cX10_init 292 = .ok (.iload_n 1, 1) := by decide +kernel
theorem dX10_init_293 : decode cX10_init 293 = .ok (.iastore, 1) := by decide +kernel
theorem dX10_init_294 : decode cX10_init 294 = .ok (.iinc 1 1, 3) := by decide +kernel
theorem dX10_init_297 : decode cX10_init 297 = .ok (.goto (-16), 3) := by decide +kernel
theorem dX10_init_300 : decode cX10_init 300 = .ok (.return_, 1) := by decide +kernel
theorem dX10_in_0 : decode cX10_in 0 = .ok (.lload_n 0, 1) := by decide +kernel
theorem dX10_in_1 : decode cX10_in 1 = .ok (.lload_n 2, 1) := by decide +kernel
theorem dX10_in_2 : decode cX10_in 2 = .ok (.lcmp, 1) := by decide +kernel
theorem dX10_in_3 : decode cX10_in 3 = .ok (.ifCond .lt 14, 3) := by decide +kernel
theorem dX10_in_6 : decode cX10_in 6 = .ok (.lload_n 0, 1) := by decide +kernel
theorem dX10_in_7 : decode cX10_in 7 = .ok (.lload 4, 2) := by decide +kernel
theorem dX10_in_9 : decode cX10_in 9 = .ok (.lcmp, 1) := by decide +kernel
theorem dX10_in_10 : decode cX10_in 10 = .ok (.ifCond .gt 7, 3) := by decide +kernel
theorem dX10_in_13 : decode cX10_in 13 = .ok (.iconst 1, 1) := by decide +kernel
theorem dX10_in_14 : decode cX10_in 14 = .ok (.goto 4, 3) := by decide +kernel
theorem dX10_in_17 : decode cX10_in 17 = .ok (.iconst 0, 1) := by decide +kernel
theorem dX10_in_18 : decode cX10_in 18 = .ok (.ireturn, 1) := by decide +kernel
theorem dX10_has_0 : decode cX10_has 0 = .ok (.iload_n 0, 1) := by decide +kernel
theorem dX10_has_1 : decode cX10_has 1 = .ok (.iload_n 1, 1) := by decide +kernel
theorem dX10_has_2 : decode cX10_has 2 = .ok (.ishr, 1) := by decide +kernel
theorem dX10_has_3 : decode cX10_has 3 = .ok (.iconst 1, 1) := by decide +kernel
theorem dX10_has_4 : decode cX10_has 4 = .ok (.iand, 1) := by decide +kernel
theorem dX10_has_5 : decode cX10_has 5 = .ok (.iconst 1, 1) := by decide +kernel
theorem dX10_has_6 : decode cX10_has 6 = .ok (.if_icmp .ne 7, 3) := by decide +kernel
theorem dX10_has_9 : decode cX10_has 9 = .ok (.iconst 1, 1) := by decide +kernel
theorem dX10_has_10 : decode cX10_has 10 = .ok (.goto 4, 3) := by decide +kernel
theorem dX10_has_13 : decode cX10_has 13 = .ok (.iconst 0, 1) := by decide +kernel
theorem dX10_has_14 : decode cX10_has 14 = .ok (.ireturn, 1) := by decide +kernel
theorem dX10_isBed_0 : decode cX10_isBed 0 = .ok (.iload_n 1, 1) := by decide +kernel
theorem dX10_isBed_1 : decode cX10_isBed 1 = .ok (.i2l, 1) := by decide +kernel
theorem dX10_isBed_2 : decode cX10_isBed 2 = .ok (.lconst 0, 1) := by decide +kernel
theorem dX10_isBed_3 : decode cX10_isBed 3 = .ok (.aload_n 0, 1) := by decide +kernel
theorem dX10_isBed_4 : decode cX10_isBed 4 = .ok (.getfield 13, 3) := by decide +kernel
theorem dX10_isBed_7 : decode cX10_isBed 7 = .ok (.iconst 1, 1) := by decide +kernel
theorem dX10_isBed_8 : decode cX10_isBed 8 = .ok (.isub, 1) := by decide +kernel
theorem dX10_isBed_9 : decode cX10_isBed 9 = .ok (.i2l, 1) := by decide +kernel
theorem dX10_isBed_10 : decode cX10_isBed 10 = .ok (.invokestatic 101, 3) := by decide +kernel
theorem dX10_isBed_13 : decode cX10_isBed 13 = .ok (.ireturn, 1) := by decide +kernel
theorem dX10_isGuest_0 : decode cX10_isGuest 0 = .ok (.iload_n 1, 1) := by decide +kernel
theorem dX10_isGuest_1 : decode cX10_isGuest 1 = .ok (.i2l, 1) := by decide +kernel
theorem dX10_isGuest_2 : decode cX10_isGuest 2 = .ok (.lconst 0, 1) := by decide +kernel
theorem dX10_isGuest_3 : decode cX10_isGuest 3 = .ok (.aload_n 0, 1) := by decide +kernel
theorem dX10_isGuest_4 : decode cX10_isGuest 4 = .ok (.getfield 29, 3) := by decide +kernel
theorem dX10_isGuest_7 : decode cX10_isGuest 7 = .ok (.iconst 1, 1) := by decide +kernel
theorem dX10_isGuest_8 : decode cX10_isGuest 8 = .ok (.isub, 1) := by decide +kernel
theorem dX10_isGuest_9 : decode cX10_isGuest 9 = .ok (.i2l, 1) := by decide +kernel
theorem dX10_isGuest_10 : decode cX10_isGuest 10 = .ok (.invokestatic 101, 3) := by decide +kernel
theorem dX10_isGuest_13 : decode cX10_isGuest 13 = .ok (.ireturn, 1) := by decide +kernel
theorem dX10_isNight_0 : decode cX10_isNight 0 = .ok (.iload_n 0, 1) := by decide +kernel
theorem dX10_isNight_1 : decode cX10_isNight 1 = .ok (.i2l, 1) := by decide +kernel
theorem dX10_isNight_2 : decode cX10_isNight 2 = .ok (.lconst 0, 1) := by decide +kernel
theorem dX10_isNight_3 : decode cX10_isNight 3 = .ok (.ldc2_w 105, 3) := by decide +kernel
theorem dX10_isNight_6 : decode cX10_isNight 6 = .ok (.invokestatic 101, 3) := by decide +kernel
theorem dX10_isNight_9 : decode cX10_isNight 9 = .ok (.ireturn, 1) := by decide +kernel
theorem dX10_write_0 : decode cX10_write 0 = .ok (.iload_n 1, 1) := by decide +kernel
theorem dX10_write_1 : decode cX10_write 1 = .ok (.i2l, 1) := by decide +kernel
theorem dX10_write_2 : decode cX10_write 2 = .ok (.ldc2_w 107, 3) := by decide +kernel
theorem dX10_write_5 : decode cX10_write 5 = .ok (.ldc2_w 109, 3) := by decide +kernel
theorem dX10_write_8 : decode cX10_write 8 = .ok (.invokestatic 101, 3) := by decide +kernel
theorem dX10_write_11 : decode cX10_write 11 = .ok (.ifCond .ne 5, 3) := by decide +kernel
theorem dX10_write_14 : decode cX10_write 14 = .ok (.iconst (-1), 1) := by decide +kernel
theorem dX10_write_15 : decode cX10_write 15 = .ok (.ireturn, 1) := by decide +kernel
theorem dX10_write_16 : decode cX10_write 16 = .ok (.aload_n 0, 1) := by decide +kernel
theorem dX10_write_17 : decode cX10_write 17 = .ok (.getfield 111, 3) := by decide +kernel
theorem dX10_write_20 : decode cX10_write 20 = .ok (.sipush 200, 3) := by decide +kernel
theorem dX10_write_23 : decode cX10_write 23 = .ok (.if_icmp .ne 6, 3) := by decide +kernel
theorem dX10_write_26 : decode cX10_write 26 = .ok (.bipush (-3), 2) := by decide +kernel
theorem dX10_write_28 : decode cX10_write 28 = .ok (.ireturn, 1) := by decide +kernel
theorem dX10_write_29 : decode cX10_write 29 = .ok (.aload_n 0, 1) := by decide +kernel
theorem dX10_write_30 : decode cX10_write 30 = .ok (.getfield 41, 3) := by decide +kernel
theorem dX10_write_33 : decode cX10_write 33 = .ok (.aload_n 0, 1) := by decide +kernel
theorem dX10_write_34 : decode cX10_write 34 = .ok (.getfield 111, 3) := by decide +kernel
theorem dX10_write_37 : decode cX10_write 37 = .ok (.iload_n 1, 1) := by decide +kernel
theorem dX10_write_38 : decode cX10_write 38 = .ok (.iastore, 1) := by decide +kernel
theorem dX10_write_39 : decode cX10_write 39 = .ok (.aload_n 0, 1) := by decide +kernel
theorem dX10_write_40 : decode cX10_write 40 = .ok (.dup, 1) := by decide +kernel
theorem dX10_write_41 : decode cX10_write 41 = .ok (.getfield 111, 3) := by decide +kernel
theorem dX10_write_44 : decode cX10_write 44 = .ok (.iconst 1, 1) := by decide +kernel
theorem dX10_write_45 : decode cX10_write 45 = .ok (.iadd, 1) := by decide +kernel
theorem dX10_write_46 : decode cX10_write 46 = .ok (.putfield 111, 3) := by decide +kernel
theorem dX10_write_49 : decode cX10_write 49 = .ok (.aload_n 0, 1) := by decide +kernel
theorem dX10_write_50 : decode cX10_write 50 = .ok (.getfield 111, 3) := by decide +kernel
theorem dX10_write_53 : decode cX10_write 53 = .ok (.ireturn, 1) := by decide +kernel
theorem dX10_wipe_0 : decode cX10_wipe 0 = .ok (.aload_n 0, 1) := by decide +kernel
theorem dX10_wipe_1 : decode cX10_wipe 1 = .ok (.getfield 111, 3) := by decide +kernel
theorem dX10_wipe_4 : decode cX10_wipe 4 = .ok (.istore_n 1, 1) := by decide +kernel
theorem dX10_wipe_5 : decode cX10_wipe 5 = .ok (.aload_n 0, 1) := by decide +kernel
theorem dX10_wipe_6 : decode cX10_wipe 6 = .ok (.iconst 0, 1) := by decide +kernel
theorem dX10_wipe_7 : decode cX10_wipe 7 = .ok (.putfield 111, 3) := by decide +kernel
theorem dX10_wipe_10 : decode cX10_wipe 10 = .ok (.iload_n 1, 1) := by decide +kernel
theorem dX10_wipe_11 : decode cX10_wipe 11 = .ok (.ireturn, 1) := by decide +kernel
theorem dX10_readNumber_0 : decode cX10_readNumber 0 = .ok (.aload_n 0, 1) := by decide +kernel
theorem dX10_readNumber_1 : decode cX10_readNumber 1 = .ok (.getfield 114, 3) := by decide +kernel
theorem dX10_readNumber_4 : decode cX10_readNumber 4 = .ok (.istore_n 2, 1) := by decide +kernel
theorem dX10_readNumber_5 : decode cX10_readNumber 5 = .ok (.iconst 0, 1) := by decide +kernel
theorem dX10_readNumber_6 : decode cX10_readNumber 6 = .ok (.istore_n 3, 1) := by decide +kernel
theorem dX10_readNumber_7 : decode cX10_readNumber 7 = .ok (.aload_n 0, 1) := by decide +kernel
theorem dX10_readNumber_8 : decode cX10_readNumber 8 = .ok (.getfield 114, 3) := by decide +kernel
theorem dX10_readNumber_11 : decode cX10_readNumber 11 = .ok (.aload_n 0, 1) := by decide +kernel
theorem dX10_readNumber_12 : decode cX10_readNumber 12 = .ok (.getfield 111, 3) := by decide +kernel
theorem dX10_readNumber_15 : decode cX10_readNumber 15 = .ok (.if_icmp .ge 66, 3) := by decide +kernel
theorem dX10_readNumber_18 : decode cX10_readNumber 18 = .ok (.aload_n 0, 1) := by decide +kernel
theorem dX10_readNumber_19 : decode cX10_readNumber 19 = .ok (.getfield 114, 3) := by decide +kernel
theorem dX10_readNumber_22 : decode cX10_readNumber 22 = .ok (.iload_n 2, 1) := by decide +kernel
theorem dX10_readNumber_23 : decode cX10_readNumber 23 = .ok (.iconst 2, 1) := by decide +kernel
theorem dX10_readNumber_24 : decode cX10_readNumber 24 = .ok (.iadd, 1) := by decide +kernel
theorem dX10_readNumber_25 : decode cX10_readNumber 25 = .ok (.if_icmp .ge 56, 3) := by decide +kernel
theorem dX10_readNumber_28 : decode cX10_readNumber 28 = .ok (.aload_n 0, 1) := by decide +kernel
theorem dX10_readNumber_29 : decode cX10_readNumber 29 = .ok (.getfield 41, 3) := by decide +kernel
theorem dX10_readNumber_32 : decode cX10_readNumber 32 = .ok (.aload_n 0, 1) := by decide +kernel
theorem dX10_readNumber_33 : decode cX10_readNumber 33 = .ok (.getfield 114, 3) := by decide +kernel
theorem dX10_readNumber_36 : decode cX10_readNumber 36 = .ok (.iaload, 1) := by decide +kernel
theorem dX10_readNumber_37 : decode cX10_readNumber 37 = .ok (.i2l, 1) := by decide +kernel
theorem dX10_readNumber_38 : decode cX10_readNumber 38 = .ok (.ldc2_w 117, 3) := by decide +kernel
theorem dX10_readNumber_41 : decode cX10_readNumber 41 = .ok (.ldc2_w 119, 3) := by decide +kernel
theorem dX10_readNumber_44 : decode cX10_readNumber 44 = .ok (.invokestatic 101, 3) := by decide +kernel
theorem dX10_readNumber_47 : decode cX10_readNumber 47 = .ok (.ifCond .eq 34, 3) := by decide +kernel
theorem dX10_readNumber_50 : decode cX10_readNumber 50 = .ok (.bipush 10, 2) := by decide +kernel
theorem dX10_readNumber_52 : decode cX10_readNumber 52 = .ok (.iload_n 3, 1) := by decide +kernel
theorem dX10_readNumber_53 : decode cX10_readNumber 53 = .ok (.imul, 1) := by decide +kernel
theorem dX10_readNumber_54 : decode cX10_readNumber 54 = .ok (.aload_n 0, 1) := by decide +kernel
theorem dX10_readNumber_55 : decode cX10_readNumber 55 = .ok (.getfield 41, 3) := by decide +kernel
theorem dX10_readNumber_58 : decode cX10_readNumber 58 = .ok (.aload_n 0, 1) := by decide +kernel
theorem dX10_readNumber_59 : decode cX10_readNumber 59 = .ok (.getfield 114, 3) := by decide +kernel
theorem dX10_readNumber_62 : decode cX10_readNumber 62 = .ok (.iaload, 1) := by decide +kernel
theorem dX10_readNumber_63 : decode cX10_readNumber 63 = .ok (.iadd, 1) := by decide +kernel
theorem dX10_readNumber_64 : decode cX10_readNumber 64 = .ok (.bipush 48, 2) := by decide +kernel
theorem dX10_readNumber_66 : decode cX10_readNumber 66 = .ok (.isub, 1) := by decide +kernel
theorem dX10_readNumber_67 : decode cX10_readNumber 67 = .ok (.istore_n 3, 1) := by decide +kernel
theorem dX10_readNumber_68 : decode cX10_readNumber 68 = .ok (.aload_n 0, 1) := by decide +kernel
theorem dX10_readNumber_69 : decode cX10_readNumber 69 = .ok (.dup, 1) := by decide +kernel
theorem dX10_readNumber_70 : decode cX10_readNumber 70 = .ok (.getfield 114, 3) := by decide +kernel
theorem dX10_readNumber_73 : decode cX10_readNumber 73 = .ok (.iconst 1, 1) := by decide +kernel
theorem dX10_readNumber_74 : decode cX10_readNumber 74 = .ok (.iadd, 1) := by decide +kernel
theorem dX10_readNumber_75 : decode cX10_readNumber 75 = .ok (.putfield 114, 3) := by decide +kernel
theorem dX10_readNumber_78 : decode cX10_readNumber 78 = .ok (.goto (-71), 3) := by decide +kernel
theorem dX10_readNumber_81 : decode cX10_readNumber 81 = .ok (.aload_n 0, 1) := by decide +kernel
theorem dX10_readNumber_82 : decode cX10_readNumber 82 = .ok (.getfield 44, 3) := by decide +kernel
theorem dX10_readNumber_85 : decode cX10_readNumber 85 = .ok (.iload_n 1, 1) := by decide +kernel
theorem dX10_readNumber_86 : decode cX10_readNumber 86 = .ok (.iload_n 3, 1) := by decide +kernel
theorem dX10_readNumber_87 : decode cX10_readNumber 87 = .ok (.iastore, 1) := by decide +kernel
theorem dX10_readNumber_88 : decode cX10_readNumber 88 = .ok (.aload_n 0, 1) := by decide +kernel
theorem dX10_readNumber_89 : decode cX10_readNumber 89 = .ok (.getfield 114, 3) := by decide +kernel
theorem dX10_readNumber_92 : decode cX10_readNumber 92 = .ok (.iload_n 2, 1) := by decide +kernel
theorem dX10_readNumber_93 : decode cX10_readNumber 93 = .ok (.if_icmp .le 7, 3) := by decide +kernel
theorem dX10_readNumber_96 : decode cX10_readNumber 96 = .ok (.iconst 1, 1) := by decide +kernel
theorem dX10_readNumber_97 : decode cX10_readNumber 97 = .ok (.goto 4, 3) := by decide +kernel
theorem dX10_readNumber_100 : decode cX10_readNumber 100 = .ok (.iconst 0, 1) := by decide +kernel
theorem dX10_readNumber_101 : decode cX10_readNumber 101 = .ok (.ireturn, 1) := by decide +kernel
theorem dX10_readNumbers_0 : decode cX10_readNumbers 0 = .ok (.iconst 0, 1) := by decide +kernel
theorem dX10_readNumbers_1 : decode cX10_readNumbers 1 = .ok (.istore_n 2, 1) := by decide +kernel
theorem dX10_readNumbers_2 : decode cX10_readNumbers 2 = .ok (.iload_n 2, 1) := by decide +kernel
theorem dX10_readNumbers_3 : decode cX10_readNumbers 3 = .ok (.iload_n 1, 1) := by decide +kernel
theorem dX10_readNumbers_4 : decode cX10_readNumbers 4 = .ok (.if_icmp .ge 70, 3) := by decide +kernel
theorem dX10_readNumbers_7 : decode cX10_readNumbers 7 = .ok (.aload_n 0, 1) := by decide +kernel
theorem dX10_readNumbers_8 : decode cX10_readNumbers 8 = .ok (.iload_n 2, 1) := by decide +kernel
theorem dX10_readNumbers_9 : decode cX10_readNumbers 9 = .ok (.invokevirtual 121, 3) := by decide +kernel
theorem dX10_readNumbers_12 : decode cX10_readNumbers 12 = .ok (.ifCond .ne 5, 3) := by decide +kernel
theorem dX10_readNumbers_15 : decode cX10_readNumbers 15 = .ok (.iconst 0, 1) := by decide +kernel
theorem dX10_readNumbers_16 : decode cX10_readNumbers 16 = .ok (.ireturn, 1) := by decide +kernel
theorem dX10_readNumbers_17 : decode cX10_readNumbers 17 = .ok (.iload_n 2, 1) := by decide +kernel
theorem dX10_readNumbers_18 : decode cX10_readNumbers 18 = .ok (.iload_n 1, 1) := by decide +kernel
theorem dX10_readNumbers_19 : decode cX10_readNumbers 19 = .ok (.iconst 1, 1) := by decide +kernel
theorem dX10_readNumbers_20 : decode cX10_readNumbers 20 = .ok (.isub, 1) := by decide +kernel
theorem dX10_readNumbers_21 : decode cX10_readNumbers 21 = .ok (.if_icmp .ne 8, 3) := by decide +kernel
theorem dX10_readNumbers_24 : decode cX10_readNumbers 24 = .ok (.bipush 59, 2) := by decide +kernel
theorem dX10_readNumbers_26 : decode cX10_readNumbers 26 = .ok (.goto 5, 3) := by decide +kernel
theorem dX10_readNumbers_29 : decode cX10_readNumbers 29 = .ok (.bipush 44, 2) := by decide +kernel
theorem dX10_readNumbers_31 : decode cX10_readNumbers 31 = .ok (.istore_n 3, 1) := by decide +kernel
theorem dX10_readNumbers_32 : decode cX10_readNumbers 32 = .ok (.aload_n 0, 1) := by decide +kernel
theorem dX10_readNumbers_33 : decode cX10_readNumbers 33 = .ok (.getfield 114, 3) := by decide +kernel
theorem dX10_readNumbers_36 : decode cX10_readNumbers 36 = .ok (.aload_n 0, 1) := by decide +kernel
theorem dX10_readNumbers_37 : decode cX10_readNumbers 37 = .ok (.getfield 111, 3) := by decide +kernel
theorem dX10_readNumbers_40 : decode cX10_readNumbers 40 = .ok (.if_icmp .ge 16, 3) := by decide +kernel
theorem dX10_readNumbers_43 : decode cX10_readNumbers 43 = .ok (.aload_n 0, 1) := by decide +kernel
theorem dX10_readNumbers_44 : decode cX10_readNumbers 44 = .ok (.getfield 41, 3) := by decide +kernel
theorem dX10_readNumbers_47 : decode cX10_readNumbers 47 = .ok (.aload_n 0, 1) := by decide +kernel
theorem dX10_readNumbers_48 : decode cX10_readNumbers 48 = .ok (.getfield 114, 3) := by decide +kernel
theorem dX10_readNumbers_51 : decode cX10_readNumbers 51 = .ok (.iaload, 1) := by decide +kernel
theorem dX10_readNumbers_52 : decode cX10_readNumbers 52 = .ok (.iload_n 3, 1) := by decide +kernel
theorem dX10_readNumbers_53 : decode cX10_readNumbers 53 = .ok (.if_icmp .eq 5, 3) := by decide +kernel
theorem dX10_readNumbers_56 : decode cX10_readNumbers 56 = .ok (.iconst 0, 1) := by decide +kernel
theorem dX10_readNumbers_57 : decode cX10_readNumbers 57 = .ok (.ireturn, 1) := by decide +kernel
theorem dX10_readNumbers_58 : decode cX10_readNumbers 58 = .ok (.aload_n 0, 1) := by decide +kernel
theorem dX10_readNumbers_59 : decode cX10_readNumbers 59 = .ok (.dup, 1) := by decide +kernel
theorem dX10_readNumbers_60 : decode cX10_readNumbers 60 = .ok (.getfield 114, 3) := by decide +kernel
theorem dX10_readNumbers_63 : decode cX10_readNumbers 63 = .ok (.iconst 1, 1) := by decide +kernel
theorem dX10_readNumbers_64 : decode cX10_readNumbers 64 = .ok (.iadd, 1) := by decide +kernel
theorem dX10_readNumbers_65 : decode cX10_readNumbers 65 = .ok (.putfield 114, 3) := by decide +kernel
theorem dX10_readNumbers_68 : decode cX10_readNumbers 68 = .ok (.iinc 2 1, 3) := by decide +kernel
theorem dX10_readNumbers_71 : decode cX10_readNumbers 71 = .ok (.goto (-69), 3) := by decide +kernel
theorem dX10_readNumbers_74 : decode cX10_readNumbers 74 = .ok (.iconst 1, 1) := by decide +kernel
theorem dX10_readNumbers_75 : decode cX10_readNumbers 75 = .ok (.ireturn, 1) := by decide +kernel
theorem dX10_readItem_0 : decode cX10_readItem 0 = .ok (.aload_n 0, 1) := by decide +kernel
theorem dX10_readItem_1 : decode cX10_readItem 1 = .ok (.getfield 41, 3) := by decide +kernel
theorem dX10_readItem_4 : decode cX10_readItem 4 = .ok (.aload_n 0, 1) := by decide +kernel
theorem dX10_readItem_5 : decode cX10_readItem 5 = .ok (.getfield 114, 3) := by decide +kernel
theorem dX10_readItem_8 : decode cX10_readItem 8 = .ok (.iaload, 1) := by decide +kernel
theorem dX10_readItem_9 : decode cX10_readItem 9 = .ok (.istore_n 1, 1) := by decide +kernel
theorem dX10_readItem_10 : decode cX10_readItem 10 = .ok (.aload_n 0, 1) := by decide +kernel
theorem dX10_readItem_11 : decode cX10_readItem 11 = .ok (.dup, 1) := by decide +kernel
theorem dX10_readItem_12 : decode cX10_readItem 12 = .ok (.getfield 114, 3) := by decide +kernel
theorem dX10_readItem_15 : decode cX10_readItem 15 = .ok (.iconst 1, 1) := by decide +kernel
theorem dX10_readItem_16 : decode cX10_readItem 16 = .ok (.iadd, 1) := by decide +kernel
theorem dX10_readItem_17 : decode cX10_readItem 17 = .ok (.putfield 114, 3) := by decide +kernel
theorem dX10_readItem_20 : decode cX10_readItem 20 = .ok (.aload_n 0, 1) := by decide +kernel
theorem dX10_readItem_21 : decode cX10_readItem 21 = .ok (.iload_n 1, 1) := by decide +kernel
theorem dX10_readItem_22 : decode cX10_readItem 22 = .ok (.bipush 103, 2) := by decide +kernel
theorem dX10_readItem_24 : decode cX10_readItem 24 = .ok (.if_icmp .ne 7, 3) := by decide +kernel
theorem dX10_readItem_27 : decode cX10_readItem 27 = .ok (.iconst 3, 1) := by decide +kernel
theorem dX10_readItem_28 : decode cX10_readItem 28 = .ok (.goto 42, 3) := by decide +kernel
theorem dX10_readItem_31 : decode cX10_readItem 31 = .ok (.iload_n 1, 1) := by decide +kernel
theorem dX10_readItem_32 : decode cX10_readItem 32 = .ok (.bipush 102, 2) := by decide +kernel
theorem dX10_readItem_34 : decode cX10_readItem 34 = .ok (.if_icmp .eq 9, 3) := by decide +kernel
theorem dX10_readItem_37 : decode cX10_readItem 37 = .ok (.iload_n 1, 1) := by decide +kernel
theorem dX10_readItem_38 : decode cX10_readItem 38 = .ok (.bipush 104, 2) := by decide +kernel
theorem dX10_readItem_40 : decode cX10_readItem 40 = .ok (.if_icmp .ne 7, 3) := by decide +kernel
theorem dX10_readItem_43 : decode cX10_readItem 43 = .ok (.iconst 2, 1) := by decide +kernel
theorem dX10_readItem_44 : decode cX10_readItem 44 = .ok (.goto 26, 3) := by decide +kernel
theorem dX10_readItem_47 : decode cX10_readItem 47 = .ok (.iload_n 1, 1) := by decide +kernel
theorem dX10_readItem_48 : decode cX10_readItem 48 = .ok (.bipush 98, 2) := by decide +kernel
theorem dX10_readItem_50 : decode cX10_readItem 50 = .ok (.if_icmp .eq 15, 3) := by decide +kernel
theorem dX10_readItem_53 : decode cX10_readItem 53 = .ok (.iload_n 1, 1) := by decide +kernel
theorem dX10_readItem_54 : decode cX10_readItem 54 = .ok (.bipush 107, 2) := by decide +kernel
theorem dX10_readItem_56 : decode cX10_readItem 56 = .ok (.if_icmp .eq 9, 3) := by decide +kernel
theorem dX10_readItem_59 : decode cX10_readItem 59 = .ok (.iload_n 1, 1) := by decide +kernel
theorem dX10_readItem_60 : decode cX10_readItem 60 = .ok (.bipush 114, 2) := by decide +kernel
theorem dX10_readItem_62 : decode cX10_readItem 62 = .ok (.if_icmp .ne 7, 3) := by decide +kernel
theorem dX10_readItem_65 : decode cX10_readItem 65 = .ok (.iconst 1, 1) := by decide +kernel
theorem dX10_readItem_66 : decode cX10_readItem 66 = .ok (.goto 4, 3) := by decide +kernel
theorem dX10_readItem_69 : decode cX10_readItem 69 = .ok (.iconst 0, 1) := by decide +kernel
theorem dX10_readItem_70 : decode cX10_readItem 70 = .ok (.putfield 125, 3) := by decide +kernel
theorem dX10_readItem_73 : decode cX10_readItem 73 = .ok (.aload_n 0, 1) := by decide +kernel
theorem dX10_readItem_74 : decode cX10_readItem 74 = .ok (.getfield 125, 3) := by decide +kernel
theorem dX10_readItem_77 : decode cX10_readItem 77 = .ok (.ifCond .eq 14, 3) := by decide +kernel
theorem dX10_readItem_80 : decode cX10_readItem 80 = .ok (.aload_n 0, 1) := by decide +kernel
theorem dX10_readItem_81 : decode cX10_readItem 81 = .ok (.aload_n 0, 1) := by decide +kernel
theorem dX10_readItem_82 : decode cX10_readItem 82 = .ok (.getfield 125, 3) := by decide +kernel
theorem dX10_readItem_85 : decode cX10_readItem 85 = .ok (.invokevirtual 128, 3) := by decide +kernel
theorem dX10_readItem_88 : decode cX10_readItem 88 = .ok (.ifCond .ne 5, 3) := by decide +kernel
theorem dX10_readItem_91 : decode cX10_readItem 91 = .ok (.iconst 0, 1) := by decide +kernel
theorem dX10_readItem_92 : decode cX10_readItem 92 = .ok (.ireturn, 1) := by decide +kernel
theorem dX10_readItem_93 : decode cX10_readItem 93 = .ok (.aload_n 0, 1) := by decide +kernel
theorem dX10_readItem_94 : decode cX10_readItem 94 = .ok (.getfield 44, 3) := by decide +kernel
theorem dX10_readItem_97 : decode cX10_readItem 97 = .ok (.iconst 0, 1) := by decide +kernel
theorem dX10_readItem_98 : decode cX10_readItem 98 = .ok (.iaload, 1) := by decide +kernel
theorem dX10_readItem_99 : decode cX10_readItem 99 = .ok (.istore_n 2, 1) := by decide +kernel
theorem dX10_readItem_100 : decode cX10_readItem 100 = .ok (.aload_n 0, 1) := by decide +kernel
theorem dX10_readItem_101 : decode cX10_readItem 101 = .ok (.getfield 44, 3) := by decide +kernel
theorem dX10_readItem_104 : decode cX10_readItem 104 = .ok (.iconst 1, 1) := by decide +kernel
theorem dX10_readItem_105 : decode cX10_readItem 105 = .ok (.iaload, 1) := by decide +kernel
theorem dX10_readItem_106 : decode cX10_readItem 106 = .ok (.istore_n 3, 1) := by decide +kernel
theorem dX10_readItem_107 : decode cX10_readItem 107 = .ok (.iconst 0, 1) := by decide +kernel
theorem dX10_readItem_108 : decode cX10_readItem 108 = .ok (.istore 4, 2) := by decide +kernel
theorem dX10_readItem_110 : decode cX10_readItem 110 = .ok (.iload_n 1, 1) := by decide +kernel
theorem dX10_readItem_111 : decode cX10_readItem 111 = .ok (.bipush 98, 2) := by decide +kernel
theorem dX10_readItem_113 : decode cX10_readItem 113 = .ok (.if_icmp .ne 87, 3) := by decide +kernel
theorem dX10_readItem_116 : decode cX10_readItem 116 = .ok (.iload_n 2, 1) := by decide +kernel
theorem dX10_readItem_117 : decode cX10_readItem 117 = .ok (.i2l, 1) := by decide +kernel
theorem dX10_readItem_118 : decode cX10_readItem 118 = .ok (.ldc2_w 131, 3) := by decide +kernel
theorem dX10_readItem_121 : decode cX10_readItem 121 = .ok (.ldc2_w 133, 3) := by decide +kernel
theorem dX10_readItem_124 : decode cX10_readItem 124 = .ok (.invokestatic 101, 3) := by decide +kernel
theorem dX10_readItem_127 : decode cX10_readItem 127 = .ok (.ifCond .eq 15, 3) := by decide +kernel
theorem dX10_readItem_130 : decode cX10_readItem 130 = .ok (.aload_n 0, 1) := by decide +kernel
theorem dX10_readItem_131 : decode cX10_readItem 131 = .ok (.getfield 135, 3) := by decide +kernel
theorem dX10_readItem_134 : decode cX10_readItem 134 = .ok (.iconst 4, 1) := by decide +kernel
theorem dX10_readItem_135 : decode cX10_readItem 135 = .ok (.if_icmp .ge 7, 3) := by decide +kernel
theorem dX10_readItem_138 : decode cX10_readItem 138 = .ok (.iconst 1, 1) := by decide +kernel
theorem dX10_readItem_139 : decode cX10_readItem 139 = .ok (.goto 4, 3) := by decide +kernel
theorem dX10_readItem_142 : decode cX10_readItem 142 = .ok (.iconst 0, 1) := by decide +kernel
theorem dX10_readItem_143 : decode cX10_readItem 143 = .ok (.istore 4, 2) := by decide +kernel
theorem dX10_readItem_145 : decode cX10_readItem 145 = .ok (.aload_n 0, 1) := by decide +kernel
theorem dX10_readItem_146 : decode cX10_readItem 146 = .ok (.getfield 47, 3) := by decide +kernel
theorem dX10_readItem_149 : decode cX10_readItem 149 = .ok (.iload 4, 2) := by decide +kernel
theorem dX10_readItem_151 : decode cX10_readItem 151 = .ok (.ifCond .eq 10, 3) := by decide +kernel
theorem dX10_readItem_154 : decode cX10_readItem 154 = .ok (.aload_n 0, 1) := by decide +kernel
theorem dX10_readItem_155 : decode cX10_readItem 155 = .ok (.getfield 135, 3) := by decide +kernel
theorem dX10_readItem_158 : decode cX10_readItem 158 = .ok (.goto 4, 3) := by decide +kernel
theorem dX10_readItem_161 : decode cX10_readItem 161 = .ok (.iconst 0, 1) := by decide +kernel
theorem dX10_readItem_162 : decode cX10_readItem 162 = .ok (.iload 4, 2) := by decide +kernel
theorem dX10_readItem_164 : decode cX10_readItem 164 = .ok (.ifCond .eq 7, 3) := by decide +kernel
theorem dX10_readItem_167 : decode cX10_readItem 167 = .ok (.iload_n 2, 1) := by decide +kernel
theorem dX10_readItem_168 : decode cX10_readItem 168 = .ok (.goto 9, 3) := by decide +kernel
theorem dX10_readItem_171 : decode cX10_readItem 171 = .ok (.aload_n 0, 1) := by decide +kernel
theorem dX10_readItem_172 : decode cX10_readItem 172 = .ok (.getfield 47, 3) := by decide +kernel
theorem dX10_readItem_175 : decode cX10_readItem 175 = .ok (.iconst 0, 1) := by decide +kernel
theorem dX10_readItem_176 : decode cX10_readItem 176 = .ok (.iaload, 1) := by decide +kernel
theorem dX10_readItem_177 : decode cX10_readItem 177 = .ok (.iastore, 1) := by decide +kernel
theorem dX10_readItem_178 : decode cX10_readItem 178 = .ok (.aload_n 0, 1) := by decide +kernel
theorem dX10_readItem_179 : decode cX10_readItem 179 = .ok (.dup, 1) := by decide +kernel
theorem dX10_readItem_180 : decode cX10_readItem 180 = .ok (.getfield 135, 3) := by decide +kernel
theorem dX10_readItem_183 : decode cX10_readItem 183 = .ok (.iload 4, 2) := by decide +kernel
theorem dX10_readItem_185 : decode cX10_readItem 185 = .ok (.ifCond .eq 7, 3) := by decide +kernel
theorem dX10_readItem_188 : decode cX10_readItem 188 = .ok (.iconst 1, 1) := by decide +kernel
theorem dX10_readItem_189 : decode cX10_readItem 189 = .ok (.goto 4, 3) := by decide +kernel
theorem dX10_readItem_192 : decode cX10_readItem 192 = .ok (.iconst 0, 1) := by decide +kernel
theorem dX10_readItem_193 : decode cX10_readItem 193 = .ok (.iadd, 1) := by decide +kernel
theorem dX10_readItem_194 : decode cX10_readItem 194 = .ok (.putfield 135, 3) := by decide +kernel
theorem dX10_readItem_197 : decode cX10_readItem 197 = .ok (.goto 427, 3) := by decide +kernel
theorem dX10_readItem_200 : decode cX10_readItem 200 = .ok (.iload_n 1, 1) := by decide +kernel
theorem dX10_readItem_201 : decode cX10_readItem 201 = .ok (.bipush 102, 2) := by decide +kernel
theorem dX10_readItem_203 : decode cX10_readItem 203 = .ok (.if_icmp .ne 92, 3) := by decide +kernel
theorem dX10_readItem_206 : decode cX10_readItem 206 = .ok (.iload_n 2, 1) := by decide +kernel
theorem dX10_readItem_207 : decode cX10_readItem 207 = .ok (.i2l, 1) := by decide +kernel
theorem dX10_readItem_208 : decode cX10_readItem 208 = .ok (.lconst 0, 1) := by decide +kernel
theorem dX10_readItem_209 : decode cX10_readItem 209 = .ok (.ldc2_w 105, 3) := by decide +kernel
theorem dX10_readItem_212 : decode cX10_readItem 212 = .ok (.invokestatic 101, 3) := by decide +kernel
theorem dX10_readItem_215 : decode cX10_readItem 215 = .ok (.ifCond .eq 27, 3) := by decide +kernel
theorem dX10_readItem_218 : decode cX10_readItem 218 = .ok (.iload_n 3, 1) := by decide +kernel
theorem dX10_readItem_219 : decode cX10_readItem 219 = .ok (.i2l, 1) := by decide +kernel
theorem dX10_readItem_220 : decode cX10_readItem 220 = .ok (.lconst 0, 1) := by decide +kernel
theorem dX10_readItem_221 : decode cX10_readItem 221 = .ok (.ldc2_w 138, 3) := by decide +kernel
theorem dX10_readItem_224 : decode cX10_readItem 224 = .ok (.invokestatic 101, 3) := by decide +kernel
theorem dX10_readItem_227 : decode cX10_readItem 227 = .ok (.ifCond .eq 15, 3) := by decide +kernel
theorem dX10_readItem_230 : decode cX10_readItem 230 = .ok (.aload_n 0, 1) := by decide +kernel
theorem dX10_readItem_231 : decode cX10_readItem 231 = .ok (.getfield 140, 3) := by decide +kernel
theorem dX10_readItem_234 : decode cX10_readItem 234 = .ok (.iconst 4, 1) := by decide +kernel
theorem dX10_readItem_235 : decode cX10_readItem 235 = .ok (.if_icmp .ge 7, 3) := by decide +kernel
theorem dX10_readItem_238 : decode cX10_readItem 238 = .ok (.iconst 1, 1) := by decide +kernel
theorem dX10_readItem_239 : decode cX10_readItem 239 = .ok (.goto 4, 3) := by decide +kernel
theorem dX10_readItem_242 : decode cX10_readItem 242 = .ok (.iconst 0, 1) := by decide +kernel
theorem dX10_readItem_243 : decode cX10_readItem 243 = .ok (.istore 4, 2) := by decide +kernel
theorem dX10_readItem_245 : decode cX10_readItem 245 = .ok (.aload_n 0, 1) := by decide +kernel
theorem dX10_readItem_246 : decode cX10_readItem 246 = .ok (.getfield 50, 3) := by decide +kernel
theorem dX10_readItem_249 : decode cX10_readItem 249 = .ok (.iload 4, 2) := by decide +kernel
theorem dX10_readItem_251 : decode cX10_readItem 251 = .ok (.ifCond .eq 7, 3) := by decide +kernel
theorem dX10_readItem_254 : decode cX10_readItem 254 = .ok (.iload_n 2, 1) := by decide +kernel
theorem dX10_readItem_255 : decode cX10_readItem 255 = .ok (.goto 4, 3) := by decide +kernel
theorem dX10_readItem_258 : decode cX10_readItem 258 = .ok (.iconst 0, 1) := by decide +kernel
theorem dX10_readItem_259 : decode cX10_readItem 259 = .ok (.dup2, 1) := by decide +kernel
theorem dX10_readItem_260 : decode cX10_readItem 260 = .ok (.iaload, 1) := by decide +kernel
theorem dX10_readItem_261 : decode cX10_readItem 261 = .ok (.iload 4, 2) := by decide +kernel
theorem dX10_readItem_263 : decode cX10_readItem 263 = .ok (.ifCond .eq 7, 3) := by decide +kernel
theorem dX10_readItem_266 : decode cX10_readItem 266 = .ok (.iload_n 3, 1) := by decide +kernel
theorem dX10_readItem_267 : decode cX10_readItem 267 = .ok (.goto 4, 3) := by decide +kernel
theorem dX10_readItem_270 : decode cX10_readItem 270 = .ok (.iconst 0, 1) := by decide +kernel
theorem dX10_readItem_271 : decode cX10_readItem 271 = .ok (.iadd, 1) := by decide +kernel
theorem dX10_readItem_272 : decode cX10_readItem 272 = .ok (.iastore, 1) := by decide +kernel
theorem dX10_readItem_273 : decode cX10_readItem 273 = .ok (.aload_n 0, 1) := by decide +kernel
theorem dX10_readItem_274 : decode cX10_readItem 274 = .ok (.dup, 1) := by decide +kernel
theorem dX10_readItem_275 : decode cX10_readItem 275 = .ok (.getfield 140, 3) := by decide +kernel
theorem dX10_readItem_278 : decode cX10_readItem 278 = .ok (.iload 4, 2) := by decide +kernel
theorem dX10_readItem_280 : decode cX10_readItem 280 = .ok (.ifCond .eq 7, 3) := by decide +kernel
theorem dX10_readItem_283 : decode cX10_readItem 283 = .ok (.iconst 1, 1) := by decide +kernel
theorem dX10_readItem_284 : decode cX10_readItem 284 = .ok (.goto 4, 3) := by decide +kernel
theorem dX10_readItem_287 : decode cX10_readItem 287 = .ok (.iconst 0, 1) := by decide +kernel
theorem dX10_readItem_288 : decode cX10_readItem 288 = .ok (.iadd, 1) := by decide +kernel
theorem dX10_readItem_289 : decode cX10_readItem 289 = .ok (.putfield 140, 3) := by decide +kernel
theorem dX10_readItem_292 : decode cX10_readItem 292 = .ok (.goto 332, 3) := by decide +kernel
theorem dX10_readItem_295 : decode cX10_readItem 295 = .ok (.iload_n 1, 1) := by decide +kernel
theorem dX10_readItem_296 : decode cX10_readItem 296 = .ok (.bipush 103, 2) := by decide +kernel
theorem dX10_readItem_298 : decode cX10_readItem 298 = .ok (.if_icmp .ne 125, 3) := by decide +kernel
theorem dX10_readItem_301 : decode cX10_readItem 301 = .ok (.iload_n 2, 1) := by decide +kernel
theorem dX10_readItem_302 : decode cX10_readItem 302 = .ok (.i2l, 1) := by decide +kernel
theorem dX10_readItem_303 : decode cX10_readItem 303 = .ok (.ldc2_w 131, 3) := by decide +kernel
theorem dX10_readItem_306 : decode cX10_readItem 306 = .ok (.ldc2_w 133, 3) := by decide +kernel
theorem dX10_readItem_309 : decode cX10_readItem 309 = .ok (.invokestatic 101, 3) := by decide +kernel
theorem dX10_readItem_312 : decode cX10_readItem 312 = .ok (.ifCond .eq 45, 3) := by decide +kernel
theorem dX10_readItem_315 : decode cX10_readItem 315 = .ok (.iload_n 3, 1) := by decide +kernel
theorem dX10_readItem_316 : decode cX10_readItem 316 = .ok (.i2l, 1) := by decide +kernel
theorem dX10_readItem_317 : decode cX10_readItem 317 = .ok (.lconst 0, 1) := by decide +kernel
theorem dX10_readItem_318 : decode cX10_readItem 318 = .ok (.ldc2_w 138, 3) := by decide +kernel
theorem dX10_readItem_321 : decode cX10_readItem 321 = .ok (.invokestatic 101, 3) := by decide +kernel
theorem dX10_readItem_324 : decode cX10_readItem 324 = .ok (.ifCond .eq 33, 3) := by decide +kernel
theorem dX10_readItem_327 : decode cX10_readItem 327 = .ok (.aload_n 0, 1) := by decide +kernel
theorem dX10_readItem_328 : decode cX10_readItem 328 = .ok (.getfield 44, 3) := by decide +kernel
theorem dX10_readItem_331 : decode cX10_readItem 331 = .ok (.iconst 2, 1) := by decide +kernel
theorem dX10_readItem_332 : decode cX10_readItem 332 = .ok (.iaload, 1) := by decide +kernel
theorem dX10_readItem_333 : decode cX10_readItem 333 = .ok (.i2l, 1) := by decide +kernel
theorem dX10_readItem_334 : decode cX10_readItem 334 = .ok (.lconst 0, 1) := by decide +kernel
theorem dX10_readItem_335 : decode cX10_readItem 335 = .ok (.ldc2_w 143, 3) := by decide +kernel
theorem dX10_readItem_338 : decode cX10_readItem 338 = .ok (.invokestatic 101, 3) := by decide +kernel
theorem dX10_readItem_341 : decode cX10_readItem 341 = .ok (.ifCond .eq 16, 3) := by decide +kernel
theorem dX10_readItem_344 : decode cX10_readItem 344 = .ok (.aload_n 0, 1) := by decide +kernel
theorem dX10_readItem_345 : decode cX10_readItem 345 = .ok (.getfield 145, 3) := by decide +kernel
theorem dX10_readItem_348 : decode cX10_readItem 348 = .ok (.bipush 7, 2) := by decide +kernel
theorem dX10_readItem_350 : decode cX10_readItem 350 = .ok (.if_icmp .ge 7, 3) := by decide +kernel
theorem dX10_readItem_353 : decode cX10_readItem 353 = .ok (.iconst 1, 1) := by decide +kernel
theorem dX10_readItem_354 : decode cX10_readItem 354 = .ok (.goto 4, 3) := by decide +kernel
theorem dX10_readItem_357 : decode cX10_readItem 357 = .ok (.iconst 0, 1) := by decide +kernel
theorem dX10_readItem_358 : decode cX10_readItem 358 = .ok (.istore 4, 2) := by decide +kernel
theorem dX10_readItem_360 : decode cX10_readItem 360 = .ok (.iconst 0, 1) := by decide +kernel
theorem dX10_readItem_361 : decode cX10_readItem 361 = .ok (.istore 5, 2) := by decide +kernel
theorem dX10_readItem_363 : decode cX10_readItem 363 = .ok (.iload 5, 2) := by decide +kernel
theorem dX10_readItem_365 : decode cX10_readItem 365 = .ok (.iconst 3, 1) := by decide +kernel
theorem dX10_readItem_366 : decode cX10_readItem 366 = .ok (.if_icmp .ge 35, 3) := by decide +kernel
theorem dX10_readItem_369 : decode cX10_readItem 369 = .ok (.iload 4, 2) := by decide +kernel
theorem dX10_readItem_371 : decode cX10_readItem 371 = .ok (.ifCond .eq 30, 3) := by decide +kernel
theorem dX10_readItem_374 : decode cX10_readItem 374 = .ok (.aload_n 0, 1) := by decide +kernel
theorem dX10_readItem_375 : decode cX10_readItem 375 = .ok (.getfield 53, 3) := by decide +kernel
theorem dX10_readItem_378 : decode cX10_readItem 378 = .ok (.iconst 3, 1) := by decide +kernel
theorem dX10_readItem_379 : decode cX10_readItem 379 = .ok (.aload_n 0, 1) := by decide +kernel
theorem dX10_readItem_380 : decode cX10_readItem 380 = .ok (.getfield 145, 3) := by decide +kernel
theorem dX10_readItem_383 : decode cX10_readItem 383 = .ok (.imul, 1) := by decide +kernel
theorem dX10_readItem_384 : decode cX10_readItem 384 = .ok (.iload 5, 2) := by decide +kernel
theorem dX10_readItem_386 : decode cX10_readItem 386 = .ok (.iadd, 1) := by decide +kernel
theorem dX10_readItem_387 : decode cX10_readItem 387 = .ok (.aload_n 0, 1) := by decide +kernel
theorem dX10_readItem_388 : decode cX10_readItem 388 = .ok (.getfield 44, 3) := by decide +kernel
theorem dX10_readItem_391 : decode cX10_readItem 391 = .ok (.iload 5, 2) := by decide +kernel
theorem dX10_readItem_393 : decode cX10_readItem 393 = .ok (.iaload, 1) := by decide +kernel
theorem dX10_readItem_394 : decode cX10_readItem 394 = .ok (.iastore, 1) := by decide +kernel
theorem dX10_readItem_395 : decode cX10_readItem 395 = .ok (.iinc 5 1, 3) := by decide +kernel
theorem dX10_readItem_398 : decode cX10_readItem 398 = .ok (.goto (-35), 3) := by decide +kernel
theorem dX10_readItem_401 : decode cX10_readItem 401 = .ok (.aload_n 0, 1) := by decide +kernel
theorem dX10_readItem_402 : decode cX10_readItem 402 = .ok (.dup, 1) := by decide +kernel
theorem dX10_readItem_403 : decode cX10_readItem 403 = .ok (.getfield 145, 3) := by decide +kernel
theorem dX10_readItem_406 : decode cX10_readItem 406 = .ok (.iload 4, 2) := by decide +kernel
theorem dX10_readItem_408 : decode cX10_readItem 408 = .ok (.ifCond .eq 7, 3) := by decide +kernel
theorem dX10_readItem_411 : decode cX10_readItem 411 = .ok (.iconst 1, 1) := by decide +kernel
theorem dX10_readItem_412 : decode cX10_readItem 412 = .ok (.goto 4, 3) := by decide +kernel
theorem dX10_readItem_415 : decode cX10_readItem 415 = .ok (.iconst 0, 1) := by decide +kernel
theorem dX10_readItem_416 : decode cX10_readItem 416 = .ok (.iadd, 1) := by decide +kernel
theorem dX10_readItem_417 : decode cX10_readItem 417 = .ok (.putfield 145, 3) := by decide +kernel
theorem dX10_readItem_420 : decode cX10_readItem 420 = .ok (.goto 204, 3) := by decide +kernel
theorem dX10_readItem_423 : decode cX10_readItem 423 = .ok (.iload_n 1, 1) := by decide +kernel
theorem dX10_readItem_424 : decode cX10_readItem 424 = .ok (.bipush 104, 2) := by decide +kernel
theorem dX10_readItem_426 : decode cX10_readItem 426 = .ok (.if_icmp .ne 80, 3) := by decide +kernel
theorem dX10_readItem_429 : decode cX10_readItem 429 = .ok (.iload_n 2, 1) := by decide +kernel
theorem dX10_readItem_430 : decode cX10_readItem 430 = .ok (.i2l, 1) := by decide +kernel
theorem dX10_readItem_431 : decode cX10_readItem 431 = .ok (.lconst 0, 1) := by decide +kernel
theorem dX10_readItem_432 : decode cX10_readItem 432 = .ok (.aload_n 0, 1) := by decide +kernel
theorem dX10_readItem_433 : decode cX10_readItem 433 = .ok (.getfield 145, 3) := by decide +kernel
theorem dX10_readItem_436 : decode cX10_readItem 436 = .ok (.iconst 1, 1) := by decide +kernel
theorem dX10_readItem_437 : decode cX10_readItem 437 = .ok (.isub, 1) := by decide +kernel
theorem dX10_readItem_438 : decode cX10_readItem 438 = .ok (.i2l, 1) := by decide +kernel
theorem dX10_readItem_439 : decode cX10_readItem 439 = .ok (.invokestatic 101, 3) := by decide +kernel
theorem dX10_readItem_442 : decode cX10_readItem 442 = .ok (.ifCond .eq 28, 3) := by decide +kernel
theorem dX10_readItem_445 : decode cX10_readItem 445 = .ok (.iload_n 3, 1) := by decide +kernel
theorem dX10_readItem_446 : decode cX10_readItem 446 = .ok (.i2l, 1) := by decide +kernel
theorem dX10_readItem_447 : decode cX10_readItem 447 = .ok (.lconst 0, 1) := by decide +kernel
theorem dX10_readItem_448 : decode cX10_readItem 448 = .ok (.aload_n 0, 1) := by decide +kernel
theorem dX10_readItem_449 : decode cX10_readItem 449 = .ok (.getfield 145, 3) := by decide +kernel
theorem dX10_readItem_452 : decode cX10_readItem 452 = .ok (.iconst 1, 1) := by decide +kernel
theorem dX10_readItem_453 : decode cX10_readItem 453 = .ok (.isub, 1) := by decide +kernel
theorem dX10_readItem_454 : decode cX10_readItem 454 = .ok (.i2l, 1) := by decide +kernel
theorem dX10_readItem_455 : decode cX10_readItem 455 = .ok (.invokestatic 101, 3) := by decide +kernel
theorem dX10_readItem_458 : decode cX10_readItem 458 = .ok (.ifCond .eq 12, 3) := by decide +kernel
theorem dX10_readItem_461 : decode cX10_readItem 461 = .ok (.iload_n 2, 1) := by decide +kernel
theorem dX10_readItem_462 : decode cX10_readItem 462 = .ok (.iload_n 3, 1) := by decide +kernel
theorem dX10_readItem_463 : decode cX10_readItem 463 = .ok (.if_icmp .eq 7, 3) := by decide +kernel
theorem dX10_readItem_466 : decode cX10_readItem 466 = .ok (.iconst 1, 1) := by decide +kernel
theorem dX10_readItem_467 : decode cX10_readItem 467 = .ok (.goto 4, 3) := by decide +kernel
theorem dX10_readItem_470 : decode cX10_readItem 470 = .ok (.iconst 0, 1) := by decide +kernel
theorem dX10_readItem_471 : decode cX10_readItem 471 = .ok (.istore 4, 2) := by decide +kernel
theorem dX10_readItem_473 : decode cX10_readItem 473 = .ok (.aload_n 0, 1) := by decide +kernel
theorem dX10_readItem_474 : decode cX10_readItem 474 = .ok (.getfield 56, 3) := by decide +kernel
theorem dX10_readItem_477 : decode cX10_readItem 477 = .ok (.iload 4, 2) := by decide +kernel
theorem dX10_readItem_479 : decode cX10_readItem 479 = .ok (.ifCond .eq 7, 3) := by decide +kernel
theorem dX10_readItem_482 : decode cX10_readItem 482 = .ok (.iload_n 2, 1) := by decide +kernel
theorem dX10_readItem_483 : decode cX10_readItem 483 = .ok (.goto 4, 3) := by decide +kernel
theorem dX10_readItem_486 : decode cX10_readItem 486 = .ok (.iconst 0, 1) := by decide +kernel
theorem dX10_readItem_487 : decode cX10_readItem 487 = .ok (.dup2, 1) := by decide +kernel
theorem dX10_readItem_488 : decode cX10_readItem 488 = .ok (.iaload, 1) := by decide +kernel
theorem dX10_readItem_489 : decode cX10_readItem 489 = .ok (.iload 4, 2) := by decide +kernel
theorem dX10_readItem_491 : decode cX10_readItem 491 = .ok (.ifCond .eq 9, 3) := by decide +kernel
theorem dX10_readItem_494 : decode cX10_readItem 494 = .ok (.iconst 1, 1) := by decide +kernel
theorem dX10_readItem_495 : decode cX10_readItem 495 = .ok (.iload_n 3, 1) := by decide +kernel
theorem dX10_readItem_496 : decode cX10_readItem 496 = .ok (.ishl, 1) := by decide +kernel
theorem dX10_readItem_497 : decode cX10_readItem 497 = .ok (.goto 4, 3) := by decide +kernel
theorem dX10_readItem_500 : decode cX10_readItem 500 = .ok (.iconst 0, 1) := by decide +kernel
theorem dX10_readItem_501 : decode cX10_readItem 501 = .ok (.ior, 1) := by decide +kernel
theorem dX10_readItem_502 : decode cX10_readItem 502 = .ok (.iastore, 1) := by decide +kernel
theorem dX10_readItem_503 : decode cX10_readItem 503 = .ok (.goto 121, 3) := by decide +kernel
theorem dX10_readItem_506 : decode cX10_readItem 506 = .ok (.iload_n 1, 1) := by decide +kernel
theorem dX10_readItem_507 : decode cX10_readItem 507 = .ok (.bipush 107, 2) := by decide +kernel
theorem dX10_readItem_509 : decode cX10_readItem 509 = .ok (.if_icmp .ne 34, 3) := by decide +kernel
theorem dX10_readItem_512 : decode cX10_readItem 512 = .ok (.iload_n 2, 1) := by decide +kernel
theorem dX10_readItem_513 : decode cX10_readItem 513 = .ok (.i2l, 1) := by decide +kernel
theorem dX10_readItem_514 : decode cX10_readItem 514 = .ok (.lconst 0, 1) := by decide +kernel
theorem dX10_readItem_515 : decode cX10_readItem 515 = .ok (.ldc2_w 148, 3) := by decide +kernel
theorem dX10_readItem_518 : decode cX10_readItem 518 = .ok (.invokestatic 101, 3) := by decide +kernel
theorem dX10_readItem_521 : decode cX10_readItem 521 = .ok (.istore 4, 2) := by decide +kernel
theorem dX10_readItem_523 : decode cX10_readItem 523 = .ok (.aload_n 0, 1) := by decide +kernel
theorem dX10_readItem_524 : decode cX10_readItem 524 = .ok (.iload 4, 2) := by decide +kernel
theorem dX10_readItem_526 : decode cX10_readItem 526 = .ok (.ifCond .eq 7, 3) := by decide +kernel
theorem dX10_readItem_529 : decode cX10_readItem 529 = .ok (.iload_n 2, 1) := by decide +kernel
theorem dX10_readItem_530 : decode cX10_readItem 530 = .ok (.goto 7, 3) := by decide +kernel
theorem dX10_readItem_533 : decode cX10_readItem 533 = .ok (.aload_n 0, 1) := by decide +kernel
theorem dX10_readItem_534 : decode cX10_readItem 534 = .ok (.getfield 150, 3) := by decide +kernel
theorem dX10_readItem_537 : decode cX10_readItem 537 = .ok (.putfield 150, 3) := by decide +kernel
theorem dX10_readItem_540 : decode cX10_readItem 540 = .ok (.goto 84, 3) := by decide +kernel
theorem dX10_readItem_543 : decode cX10_readItem 543 = .ok (.iload_n 2, 1) := by decide +kernel
theorem dX10_readItem_544 : decode cX10_readItem 544 = .ok (.i2l, 1) := by decide +kernel
theorem dX10_readItem_545 : decode cX10_readItem 545 = .ok (.ldc2_w 131, 3) := by decide +kernel
theorem dX10_readItem_548 : decode cX10_readItem 548 = .ok (.ldc2_w 133, 3) := by decide +kernel
theorem dX10_readItem_551 : decode cX10_readItem 551 = .ok (.invokestatic 101, 3) := by decide +kernel
theorem dX10_readItem_554 : decode cX10_readItem 554 = .ok (.ifCond .eq 15, 3) := by decide +kernel
theorem dX10_readItem_557 : decode cX10_readItem 557 = .ok (.aload_n 0, 1) := by decide +kernel
theorem dX10_readItem_558 : decode cX10_readItem 558 = .ok (.getfield 153, 3) := by decide +kernel
theorem dX10_readItem_561 : decode cX10_readItem 561 = .ok (.iconst 4, 1) := by decide +kernel
theorem dX10_readItem_562 : decode cX10_readItem 562 = .ok (.if_icmp .ge 7, 3) := by decide +kernel
theorem dX10_readItem_565 : decode cX10_readItem 565 = .ok (.iconst 1, 1) := by decide +kernel
theorem dX10_readItem_566 : decode cX10_readItem 566 = .ok (.goto 4, 3) := by decide +kernel
theorem dX10_readItem_569 : decode cX10_readItem 569 = .ok (.iconst 0, 1) := by decide +kernel
theorem dX10_readItem_570 : decode cX10_readItem 570 = .ok (.istore 4, 2) := by decide +kernel
theorem dX10_readItem_572 : decode cX10_readItem 572 = .ok (.aload_n 0, 1) := by decide +kernel
theorem dX10_readItem_573 : decode cX10_readItem 573 = .ok (.getfield 59, 3) := by decide +kernel
theorem dX10_readItem_576 : decode cX10_readItem 576 = .ok (.iload 4, 2) := by decide +kernel
theorem dX10_readItem_578 : decode cX10_readItem 578 = .ok (.ifCond .eq 10, 3) := by decide +kernel
theorem dX10_readItem_581 : decode cX10_readItem 581 = .ok (.aload_n 0, 1) := by decide +kernel
theorem dX10_readItem_582 : decode cX10_readItem 582 = .ok (.getfield 153, 3) := by decide +kernel
theorem dX10_readItem_585 : decode cX10_readItem 585 = .ok (.goto 4, 3) := by decide +kernel
theorem dX10_readItem_588 : decode cX10_readItem 588 = .ok (.iconst 0, 1) := by decide +kernel
theorem dX10_readItem_589 : decode cX10_readItem 589 = .ok (.iload 4, 2) := by decide +kernel
theorem dX10_readItem_591 : decode cX10_readItem 591 = .ok (.ifCond .eq 7, 3) := by decide +kernel
theorem dX10_readItem_594 : decode cX10_readItem 594 = .ok (.iload_n 2, 1) := by decide +kernel
theorem dX10_readItem_595 : decode cX10_readItem 595 = .ok (.goto 9, 3) := by decide +kernel
theorem dX10_readItem_598 : decode cX10_readItem 598 = .ok (.aload_n 0, 1) := by decide +kernel
theorem dX10_readItem_599 : decode cX10_readItem 599 = .ok (.getfield 59, 3) := by decide +kernel
theorem dX10_readItem_602 : decode cX10_readItem 602 = .ok (.iconst 0, 1) := by decide +kernel
theorem dX10_readItem_603 : decode cX10_readItem 603 = .ok (.iaload, 1) := by decide +kernel
theorem dX10_readItem_604 : decode cX10_readItem 604 = .ok (.iastore, 1) := by decide +kernel
theorem dX10_readItem_605 : decode cX10_readItem 605 = .ok (.aload_n 0, 1) := by decide +kernel
theorem dX10_readItem_606 : decode cX10_readItem 606 = .ok (.dup, 1) := by decide +kernel
theorem dX10_readItem_607 : decode cX10_readItem 607 = .ok (.getfield 153, 3) := by decide +kernel
theorem dX10_readItem_610 : decode cX10_readItem 610 = .ok (.iload 4, 2) := by decide +kernel
theorem dX10_readItem_612 : decode cX10_readItem 612 = .ok (.ifCond .eq 7, 3) := by decide +kernel
theorem dX10_readItem_615 : decode cX10_readItem 615 = .ok (.iconst 1, 1) := by decide +kernel
theorem dX10_readItem_616 : decode cX10_readItem 616 = .ok (.goto 4, 3) := by decide +kernel
theorem dX10_readItem_619 : decode cX10_readItem 619 = .ok (.iconst 0, 1) := by decide +kernel
theorem dX10_readItem_620 : decode cX10_readItem 620 = .ok (.iadd, 1) := by decide +kernel
theorem dX10_readItem_621 : decode cX10_readItem 621 = .ok (.putfield 153, 3) := by decide +kernel
theorem dX10_readItem_624 : decode cX10_readItem 624 = .ok (.iload 4, 2) := by decide +kernel
theorem dX10_readItem_626 : decode cX10_readItem 626 = .ok (.ireturn, 1) := by decide +kernel
theorem dX10_fault_0 : decode cX10_fault 0 = .ok (.aload_n 0, 1) := by decide +kernel
theorem dX10_fault_1 : decode cX10_fault 1 = .ok (.iconst 0, 1) := by decide +kernel
theorem dX10_fault_2 : decode cX10_fault 2 = .ok (.putfield 114, 3) := by decide +kernel
theorem dX10_fault_5 : decode cX10_fault 5 = .ok (.aload_n 0, 1) := by decide +kernel
theorem dX10_fault_6 : decode cX10_fault 6 = .ok (.iconst 0, 1) := by decide +kernel
theorem dX10_fault_7 : decode cX10_fault 7 = .ok (.putfield 135, 3) := by decide +kernel
theorem dX10_fault_10 : decode cX10_fault 10 = .ok (.aload_n 0, 1) := by decide +kernel
theorem dX10_fault_11 : decode cX10_fault 11 = .ok (.iconst 0, 1) := by decide +kernel
theorem dX10_fault_12 : decode cX10_fault 12 = .ok (.putfield 140, 3) := by decide +kernel
theorem dX10_fault_15 : decode cX10_fault 15 = .ok (.aload_n 0, 1) := by decide +kernel
theorem dX10_fault_16 : decode cX10_fault 16 = .ok (.iconst 0, 1) := by decide +kernel
theorem dX10_fault_17 : decode cX10_fault 17 = .ok (.putfield 145, 3) := by decide +kernel
theorem dX10_fault_20 : decode cX10_fault 20 = .ok (.aload_n 0, 1) := by decide +kernel
theorem dX10_fault_21 : decode cX10_fault 21 = .ok (.iconst 0, 1) := by decide +kernel
theorem dX10_fault_22 : decode cX10_fault 22 = .ok (.putfield 153, 3) := by decide +kernel
theorem dX10_fault_25 : decode cX10_fault 25 = .ok (.aload_n 0, 1) := by decide +kernel
theorem dX10_fault_26 : decode cX10_fault 26 = .ok (.iconst 1, 1) := by decide +kernel
theorem dX10_fault_27 : decode cX10_fault 27 = .ok (.putfield 150, 3) := by decide +kernel
theorem dX10_fault_30 : decode cX10_fault 30 = .ok (.iconst 0, 1) := by decide +kernel
theorem dX10_fault_31 : decode cX10_fault 31 = .ok (.istore_n 1, 1) := by decide +kernel
theorem dX10_fault_32 : decode cX10_fault 32 = .ok (.iload_n 1, 1) := by decide +kernel
theorem dX10_fault_33 : decode cX10_fault 33 = .ok (.bipush 30, 2) := by decide +kernel
theorem dX10_fault_35 : decode cX10_fault 35 = .ok (.if_icmp .ge 16, 3) := by decide +kernel
theorem dX10_fault_38 : decode cX10_fault 38 = .ok (.aload_n 0, 1) := by decide +kernel
theorem dX10_fault_39 : decode cX10_fault 39 = .ok (.getfield 50, 3) := by decide +kernel
theorem dX10_fault_42 : decode cX10_fault 42 = .ok (.iload_n 1, 1) := by decide +kernel
theorem dX10_fault_43 : decode cX10_fault 43 = .ok (.iconst 0, 1) := by decide +kernel
theorem dX10_fault_44 : decode cX10_fault 44 = .ok (.iastore, 1) := by decide +kernel
theorem dX10_fault_45 : decode cX10_fault 45 = .ok (.iinc 1 1, 3) := by decide +kernel
theorem dX10_fault_48 : decode cX10_fault 48 = .ok (.goto (-16), 3) := by decide +kernel
theorem dX10_fault_51 : decode cX10_fault 51 = .ok (.iconst 0, 1) := by decide +kernel
theorem dX10_fault_52 : decode cX10_fault 52 = .ok (.istore_n 1, 1) := by decide +kernel
theorem dX10_fault_53 : decode cX10_fault 53 = .ok (.iload_n 1, 1) := by decide +kernel
theorem dX10_fault_54 : decode cX10_fault 54 = .ok (.bipush 7, 2) := by decide +kernel
theorem dX10_fault_56 : decode cX10_fault 56 = .ok (.if_icmp .ge 16, 3) := by decide +kernel
theorem dX10_fault_59 : decode cX10_fault 59 = .ok (.aload_n 0, 1) := by decide +kernel
theorem dX10_fault_60 : decode cX10_fault 60 = .ok (.getfield 56, 3) := by decide +kernel
theorem dX10_fault_63 : decode cX10_fault 63 = .ok (.iload_n 1, 1) := by decide +kernel
theorem dX10_fault_64 : decode cX10_fault 64 = .ok (.iconst 0, 1) := by decide +kernel
theorem dX10_fault_65 : decode cX10_fault 65 = .ok (.iastore, 1) := by decide +kernel
theorem dX10_fault_66 : decode cX10_fault 66 = .ok (.iinc 1 1, 3) := by decide +kernel
theorem dX10_fault_69 : decode cX10_fault 69 = .ok (.goto (-16), 3) := by decide +kernel
theorem dX10_fault_72 : decode cX10_fault 72 = .ok (.aload_n 0, 1) := by decide +kernel
theorem dX10_fault_73 : decode cX10_fault 73 = .ok (.getfield 114, 3) := by decide +kernel
theorem dX10_fault_76 : decode cX10_fault 76 = .ok (.aload_n 0, 1) := by decide +kernel
theorem dX10_fault_77 : decode cX10_fault 77 = .ok (.getfield 111, 3) := by decide +kernel
theorem dX10_fault_80 : decode cX10_fault 80 = .ok (.if_icmp .ge 20, 3) := by decide +kernel
theorem dX10_fault_83 : decode cX10_fault 83 = .ok (.aload_n 0, 1) := by decide +kernel
theorem dX10_fault_84 : decode cX10_fault 84 = .ok (.getfield 114, 3) := by decide +kernel
theorem dX10_fault_87 : decode cX10_fault 87 = .ok (.istore_n 1, 1) := by decide +kernel
theorem dX10_fault_88 : decode cX10_fault 88 = .ok (.aload_n 0, 1) := by decide +kernel
theorem dX10_fault_89 : decode cX10_fault 89 = .ok (.invokevirtual 156, 3) := by decide +kernel
theorem dX10_fault_92 : decode cX10_fault 92 = .ok (.ifCond .ne 5, 3) := by decide +kernel
theorem dX10_fault_95 : decode cX10_fault 95 = .ok (.iload_n 1, 1) := by decide +kernel
theorem dX10_fault_96 : decode cX10_fault 96 = .ok (.ireturn, 1) := by decide +kernel
theorem dX10_fault_97 : decode cX10_fault 97 = .ok (.goto (-25), 3) := by decide +kernel
theorem dX10_fault_100 : decode cX10_fault 100 = .ok (.bipush (-4), 2) := by decide +kernel
theorem dX10_fault_102 : decode cX10_fault 102 = .ok (.ireturn, 1) := by decide +kernel
theorem dX10_lay_0 : decode cX10_lay 0 = .ok (.aload_n 0, 1) := by decide +kernel
theorem dX10_lay_1 : decode cX10_lay 1 = .ok (.invokevirtual 160, 3) := by decide +kernel
theorem dX10_lay_4 : decode cX10_lay 4 = .ok (.bipush (-4), 2) := by decide +kernel
theorem dX10_lay_6 : decode cX10_lay 6 = .ok (.if_icmp .ne 17, 3) := by decide +kernel
theorem dX10_lay_9 : decode cX10_lay 9 = .ok (.aload_n 0, 1) := by decide +kernel
theorem dX10_lay_10 : decode cX10_lay 10 = .ok (.getfield 135, 3) := by decide +kernel
theorem dX10_lay_13 : decode cX10_lay 13 = .ok (.ifCond .eq 10, 3) := by decide +kernel
theorem dX10_lay_16 : decode cX10_lay 16 = .ok (.aload_n 0, 1) := by decide +kernel
theorem dX10_lay_17 : decode cX10_lay 17 = .ok (.getfield 145, 3) := by decide +kernel
theorem dX10_lay_20 : decode cX10_lay 20 = .ok (.ifCond .ne 6, 3) := by decide +kernel
theorem dX10_lay_23 : decode cX10_lay 23 = .ok (.bipush (-2), 2) := by decide +kernel
theorem dX10_lay_25 : decode cX10_lay 25 = .ok (.ireturn, 1) := by decide +kernel
theorem dX10_lay_26 : decode cX10_lay 26 = .ok (.aload_n 0, 1) := by decide +kernel
theorem dX10_lay_27 : decode cX10_lay 27 = .ok (.aload_n 0, 1) := by decide +kernel
theorem dX10_lay_28 : decode cX10_lay 28 = .ok (.getfield 135, 3) := by decide +kernel
theorem dX10_lay_31 : decode cX10_lay 31 = .ok (.putfield 13, 3) := by decide +kernel
theorem dX10_lay_34 : decode cX10_lay 34 = .ok (.aload_n 0, 1) := by decide +kernel
theorem dX10_lay_35 : decode cX10_lay 35 = .ok (.aload_n 0, 1) := by decide +kernel
theorem dX10_lay_36 : decode cX10_lay 36 = .ok (.getfield 145, 3) := by decide +kernel
theorem dX10_lay_39 : decode cX10_lay 39 = .ok (.putfield 29, 3) := by decide +kernel
theorem dX10_lay_42 : decode cX10_lay 42 = .ok (.aload_n 0, 1) := by decide +kernel
theorem dX10_lay_43 : decode cX10_lay 43 = .ok (.aload_n 0, 1) := by decide +kernel
theorem dX10_lay_44 : decode cX10_lay 44 = .ok (.getfield 140, 3) := by decide +kernel
theorem dX10_lay_47 : decode cX10_lay 47 = .ok (.putfield 164, 3) := by decide +kernel
theorem dX10_lay_50 : decode cX10_lay 50 = .ok (.aload_n 0, 1) := by decide +kernel
theorem dX10_lay_51 : decode cX10_lay 51 = .ok (.aload_n 0, 1) := by decide +kernel
theorem dX10_lay_52 : decode cX10_lay 52 = .ok (.getfield 153, 3) := by decide +kernel
theorem dX10_lay_55 : decode cX10_lay 55 = .ok (.putfield 167, 3) := by decide +kernel
theorem dX10_lay_58 : decode cX10_lay 58 = .ok (.aload_n 0, 1) := by decide +kernel
theorem dX10_lay_59 : decode cX10_lay 59 = .ok (.aload_n 0, 1) := by decide +kernel
theorem dX10_lay_60 : decode cX10_lay 60 = .ok (.getfield 150, 3) := by decide +kernel
theorem dX10_lay_63 : decode cX10_lay 63 = .ok (.putfield 35, 3) := by decide +kernel
theorem dX10_lay_66 : decode cX10_lay 66 = .ok (.iconst 0, 1) := by decide +kernel
theorem dX10_lay_67 : decode cX10_lay 67 = .ok (.istore_n 1, 1) := by decide +kernel
theorem dX10_lay_68 : decode cX10_lay 68 = .ok (.iload_n 1, 1) := by decide +kernel
theorem dX10_lay_69 : decode cX10_lay 69 = .ok (.iconst 4, 1) := by decide +kernel
theorem dX10_lay_70 : decode cX10_lay 70 = .ok (.if_icmp .ge 33, 3) := by decide +kernel
theorem dX10_lay_73 : decode cX10_lay 73 = .ok (.aload_n 0, 1) := by decide +kernel
theorem dX10_lay_74 : decode cX10_lay 74 = .ok (.getfield 7, 3) := by decide +kernel
theorem dX10_lay_77 : decode cX10_lay 77 = .ok (.iload_n 1, 1) := by decide +kernel
theorem dX10_lay_78 : decode cX10_lay 78 = .ok (.aload_n 0, 1) := by decide +kernel
theorem dX10_lay_79 : decode cX10_lay 79 = .ok (.getfield 47, 3) := by decide +kernel
theorem dX10_lay_82 : decode cX10_lay 82 = .ok (.iload_n 1, 1) := by decide +kernel
theorem dX10_lay_83 : decode cX10_lay 83 = .ok (.iaload, 1) := by decide +kernel
theorem dX10_lay_84 : decode cX10_lay 84 = .ok (.iastore, 1) := by decide +kernel
theorem dX10_lay_85 : decode cX10_lay 85 = .ok (.aload_n 0, 1) := by decide +kernel
theorem dX10_lay_86 : decode cX10_lay 86 = .ok (.getfield 32, 3) := by decide +kernel
theorem dX10_lay_89 : decode cX10_lay 89 = .ok (.iload_n 1, 1) := by decide +kernel
theorem dX10_lay_90 : decode cX10_lay 90 = .ok (.aload_n 0, 1) := by decide +kernel
theorem dX10_lay_91 : decode cX10_lay 91 = .ok (.getfield 59, 3) := by decide +kernel
theorem dX10_lay_94 : decode cX10_lay 94 = .ok (.iload_n 1, 1) := by decide +kernel
theorem dX10_lay_95 : decode cX10_lay 95 = .ok (.iaload, 1) := by decide +kernel
theorem dX10_lay_96 : decode cX10_lay 96 = .ok (.iastore, 1) := by decide +kernel
theorem dX10_lay_97 : decode cX10_lay 97 = .ok (.iinc 1 1, 3) := by decide +kernel
theorem dX10_lay_100 : decode cX10_lay 100 = .ok (.goto (-32), 3) := by decide +kernel
theorem dX10_lay_103 : decode cX10_lay 103 = .ok (.iconst 0, 1) := by decide +kernel
theorem dX10_lay_104 : decode cX10_lay 104 = .ok (.istore_n 1, 1) := by decide +kernel
theorem dX10_lay_105 : decode cX10_lay 105 = .ok (.iload_n 1, 1) := by decide +kernel
theorem dX10_lay_106 : decode cX10_lay 106 = .ok (.bipush 30, 2) := by decide +kernel
theorem dX10_lay_108 : decode cX10_lay 108 = .ok (.if_icmp .ge 21, 3) := by decide +kernel
theorem dX10_lay_111 : decode cX10_lay 111 = .ok (.aload_n 0, 1) := by decide +kernel
theorem dX10_lay_112 : decode cX10_lay 112 = .ok (.getfield 17, 3) := by decide +kernel
theorem dX10_lay_115 : decode cX10_lay 115 = .ok (.iload_n 1, 1) := by decide +kernel
theorem dX10_lay_116 : decode cX10_lay 116 = .ok (.aload_n 0, 1) := by decide +kernel
theorem dX10_lay_117 : decode cX10_lay 117 = .ok (.getfield 50, 3) := by decide +kernel
theorem dX10_lay_120 : decode cX10_lay 120 = .ok (.iload_n 1, 1) := by decide +kernel
theorem dX10_lay_121 : decode cX10_lay 121 = .ok (.iaload, 1) := by decide +kernel
theorem dX10_lay_122 : decode cX10_lay 122 = .ok (.iastore, 1) := by decide +kernel
theorem dX10_lay_123 : decode cX10_lay 123 = .ok (.iinc 1 1, 3) := by decide +kernel
theorem dX10_lay_126 : decode cX10_lay 126 = .ok (.goto (-21), 3) := by decide +kernel
theorem dX10_lay_129 : decode cX10_lay 129 = .ok (.iconst 0, 1) := by decide +kernel
theorem dX10_lay_130 : decode cX10_lay 130 = .ok (.istore_n 1, 1) := by decide +kernel
theorem dX10_lay_131 : decode cX10_lay 131 = .ok (.iload_n 1, 1) := by decide +kernel
theorem dX10_lay_132 : decode cX10_lay 132 = .ok (.bipush 7, 2) := by decide +kernel
theorem dX10_lay_134 : decode cX10_lay 134 = .ok (.if_icmp .ge 87, 3) := by decide +kernel
theorem dX10_lay_137 : decode cX10_lay 137 = .ok (.aload_n 0, 1) := by decide +kernel
theorem dX10_lay_138 : decode cX10_lay 138 = .ok (.getfield 20, 3) := by decide +kernel
theorem dX10_lay_141 : decode cX10_lay 141 = .ok (.iload_n 1, 1) := by decide +kernel
theorem dX10_lay_142 : decode cX10_lay 142 = .ok (.aload_n 0, 1) := by decide +kernel
theorem dX10_lay_143 : decode cX10_lay 143 = .ok (.getfield 53, 3) := by decide +kernel
theorem dX10_lay_146 : decode cX10_lay 146 = .ok (.iconst 3, 1) := by decide +kernel
theorem dX10_lay_147 : decode cX10_lay 147 = .ok (.iload_n 1, 1) := by decide +kernel
theorem dX10_lay_148 : decode cX10_lay 148 = .ok (.imul, 1) := by decide +kernel
theorem dX10_lay_149 : decode cX10_lay 149 = .ok (.iaload, 1) := by decide +kernel
theorem dX10_lay_150 : decode cX10_lay 150 = .ok (.iastore, 1) := by decide +kernel
theorem dX10_lay_151 : decode cX10_lay 151 = .ok (.aload_n 0, 1) := by decide +kernel
theorem dX10_lay_152 : decode cX10_lay 152 = .ok (.getfield 23, 3) := by decide +kernel
theorem dX10_lay_155 : decode cX10_lay 155 = .ok (.iload_n 1, 1) := by decide +kernel
theorem dX10_lay_156 : decode cX10_lay 156 = .ok (.aload_n 0, 1) := by decide +kernel
theorem dX10_lay_157 : decode cX10_lay 157 = .ok (.getfield 53, 3) := by decide +kernel
theorem dX10_lay_160 : decode cX10_lay 160 = .ok (.iconst 3, 1) := by decide +kernel
theorem dX10_lay_161 : decode cX10_lay 161 = .ok (.iload_n 1, 1) := by decide +kernel
theorem dX10_lay_162 : decode cX10_lay 162 = .ok (.imul, 1) := by decide +kernel
theorem dX10_lay_163 : decode cX10_lay 163 = .ok (.iconst 2, 1) := by decide +kernel
theorem dX10_lay_164 : decode cX10_lay 164 = .ok (.iadd, 1) := by decide +kernel
theorem dX10_lay_165 : decode cX10_lay 165 = .ok (.iaload, 1) := by decide +kernel
theorem dX10_lay_166 : decode cX10_lay 166 = .ok (.iastore, 1) := by decide +kernel
theorem dX10_lay_167 : decode cX10_lay 167 = .ok (.aload_n 0, 1) := by decide +kernel
theorem dX10_lay_168 : decode cX10_lay 168 = .ok (.getfield 26, 3) := by decide +kernel
theorem dX10_lay_171 : decode cX10_lay 171 = .ok (.iload_n 1, 1) := by decide +kernel
theorem dX10_lay_172 : decode cX10_lay 172 = .ok (.aload_n 0, 1) := by decide +kernel
theorem dX10_lay_173 : decode cX10_lay 173 = .ok (.getfield 56, 3) := by decide +kernel
theorem dX10_lay_176 : decode cX10_lay 176 = .ok (.iload_n 1, 1) := by decide +kernel
theorem dX10_lay_177 : decode cX10_lay 177 = .ok (.iaload, 1) := by decide +kernel
theorem dX10_lay_178 : decode cX10_lay 178 = .ok (.iastore, 1) := by decide +kernel
theorem dX10_lay_179 : decode cX10_lay 179 = .ok (.aload_n 0, 1) := by decide +kernel
theorem dX10_lay_180 : decode cX10_lay 180 = .ok (.getfield 38, 3) := by decide +kernel
theorem dX10_lay_183 : decode cX10_lay 183 = .ok (.iload_n 1, 1) := by decide +kernel
theorem dX10_lay_184 : decode cX10_lay 184 = .ok (.iload_n 1, 1) := by decide +kernel
theorem dX10_lay_185 : decode cX10_lay 185 = .ok (.iastore, 1) := by decide +kernel
theorem dX10_lay_186 : decode cX10_lay 186 = .ok (.aload_n 0, 1) := by decide +kernel
theorem dX10_lay_187 : decode cX10_lay 187 = .ok (.getfield 38, 3) := by decide +kernel
theorem dX10_lay_190 : decode cX10_lay 190 = .ok (.bipush 7, 2) := by decide +kernel
theorem dX10_lay_192 : decode cX10_lay 192 = .ok (.iload_n 1, 1) := by decide +kernel
theorem dX10_lay_193 : decode cX10_lay 193 = .ok (.iadd, 1) := by decide +kernel
theorem dX10_lay_194 : decode cX10_lay 194 = .ok (.iconst 0, 1) := by decide +kernel
theorem dX10_lay_195 : decode cX10_lay 195 = .ok (.iastore, 1) := by decide +kernel
theorem dX10_lay_196 : decode cX10_lay 196 = .ok (.aload_n 0, 1) := by decide +kernel
theorem dX10_lay_197 : decode cX10_lay 197 = .ok (.getfield 38, 3) := by decide +kernel
theorem dX10_lay_200 : decode cX10_lay 200 = .ok (.bipush 14, 2) := by decide +kernel
theorem dX10_lay_202 : decode cX10_lay 202 = .ok (.iload_n 1, 1) := by decide +kernel
theorem dX10_lay_203 : decode cX10_lay 203 = .ok (.iadd, 1) := by decide +kernel
theorem dX10_lay_204 : decode cX10_lay 204 = .ok (.aload_n 0, 1) := by decide +kernel
theorem dX10_lay_205 : decode cX10_lay 205 = .ok (.getfield 53, 3) := by decide +kernel
theorem dX10_lay_208 : decode cX10_lay 208 = .ok (.iconst 3, 1) := by decide +kernel
theorem dX10_lay_209 : decode cX10_lay 209 = .ok (.iload_n 1, 1) := by decide +kernel
theorem dX10_lay_210 : decode cX10_lay 210 = .ok (.imul, 1) := by decide +kernel
theorem dX10_lay_211 : decode cX10_lay 211 = .ok (.iconst 1, 1) := by decide +kernel
theorem dX10_lay_212 : decode cX10_lay 212 = .ok (.iadd, 1) := by decide +kernel
theorem dX10_lay_213 : decode cX10_lay 213 = .ok (.iaload, 1) := by decide +kernel
theorem dX10_lay_214 : decode cX10_lay 214 = .ok (.iastore, 1) := by decide +kernel
theorem dX10_lay_215 : decode cX10_lay 215 = .ok (.iinc 1 1, 3) := by decide +kernel
theorem dX10_lay_218 : decode cX10_lay 218 = .ok (.goto (-87), 3) := by decide +kernel
theorem dX10_lay_221 : decode cX10_lay 221 = .ok (.aload_n 0, 1) := by decide +kernel
theorem dX10_lay_222 : decode cX10_lay 222 = .ok (.iconst 0, 1) := by decide +kernel
theorem dX10_lay_223 : decode cX10_lay 223 = .ok (.putfield 170, 3) := by decide +kernel
theorem dX10_lay_226 : decode cX10_lay 226 = .ok (.aload_n 0, 1) := by decide +kernel
theorem dX10_lay_227 : decode cX10_lay 227 = .ok (.iconst 0, 1) := by decide +kernel
theorem dX10_lay_228 : decode cX10_lay 228 = .ok (.putfield 173, 3) := by decide +kernel
theorem dX10_lay_231 : decode cX10_lay 231 = .ok (.aload_n 0, 1) := by decide +kernel
theorem dX10_lay_232 : decode cX10_lay 232 = .ok (.iconst 0, 1) := by decide +kernel
theorem dX10_lay_233 : decode cX10_lay 233 = .ok (.putfield 176, 3) := by decide +kernel
theorem dX10_lay_236 : decode cX10_lay 236 = .ok (.aload_n 0, 1) := by decide +kernel
theorem dX10_lay_237 : decode cX10_lay 237 = .ok (.getfield 29, 3) := by decide +kernel
theorem dX10_lay_240 : decode cX10_lay 240 = .ok (.ireturn, 1) := by decide +kernel
theorem dX10_lengthOn_0 : decode cX10_lengthOn 0 = .ok (.aload_n 0, 1) := by decide +kernel
theorem dX10_lengthOn_1 : decode cX10_lengthOn 1 = .ok (.getfield 179, 3) := by decide +kernel
theorem dX10_lengthOn_4 : decode cX10_lengthOn 4 = .ok (.ifCond .eq 21, 3) := by decide +kernel
theorem dX10_lengthOn_7 : decode cX10_lengthOn 7 = .ok (.iload_n 2, 1) := by decide +kernel
theorem dX10_lengthOn_8 : decode cX10_lengthOn 8 = .ok (.iconst 2, 1) := by decide +kernel
theorem dX10_lengthOn_9 : decode cX10_lengthOn 9 = .ok (.irem, 1) := by decide +kernel
theorem dX10_lengthOn_10 : decode cX10_lengthOn 10 = .ok (.iconst 1, 1) := by decide +kernel
theorem dX10_lengthOn_11 : decode cX10_lengthOn 11 = .ok (.if_icmp .ne 14, 3) := by decide +kernel
theorem dX10_lengthOn_14 : decode cX10_lengthOn 14 = .ok (.iload_n 1, 1) := by decide +kernel
theorem dX10_lengthOn_15 : decode cX10_lengthOn 15 = .ok (.iconst 1, 1) := by decide +kernel
theorem dX10_lengthOn_16 : decode cX10_lengthOn 16 = .ok (.iadd, 1) := by decide +kernel
theorem dX10_lengthOn_17 : decode cX10_lengthOn 17 = .ok (.aload_n 0, 1) := by decide +kernel
theorem dX10_lengthOn_18 : decode cX10_lengthOn 18 = .ok (.getfield 13, 3) := by decide +kernel
theorem dX10_lengthOn_21 : decode cX10_lengthOn 21 = .ok (.irem, 1) := by decide +kernel
theorem dX10_lengthOn_22 : decode cX10_lengthOn 22 = .ok (.goto 4, 3) := by decide +kernel
theorem dX10_lengthOn_25 : decode cX10_lengthOn 25 = .ok (.iload_n 1, 1) := by decide +kernel
theorem dX10_lengthOn_26 : decode cX10_lengthOn 26 = .ok (.istore_n 3, 1) := by decide +kernel
theorem dX10_lengthOn_27 : decode cX10_lengthOn 27 = .ok (.iconst 3, 1) := by decide +kernel
theorem dX10_lengthOn_28 : decode cX10_lengthOn 28 = .ok (.istore 4, 2) := by decide +kernel
theorem dX10_lengthOn_30 : decode cX10_lengthOn 30 = .ok (.aload_n 0, 1) := by decide +kernel
theorem dX10_lengthOn_31 : decode cX10_lengthOn 31 = .ok (.getfield 62, 3) := by decide +kernel
theorem dX10_lengthOn_34 : decode cX10_lengthOn 34 = .ok (.ifCond .lt 46, 3) := by decide +kernel
theorem dX10_lengthOn_37 : decode cX10_lengthOn 37 = .ok (.ldc2_w 183, 3) := by decide +kernel
theorem dX10_lengthOn_40 : decode cX10_lengthOn 40 = .ok (.aload_n 0, 1) := by decide +kernel
theorem dX10_lengthOn_41 : decode cX10_lengthOn 41 = .ok (.getfield 62, 3) := by decide +kernel
theorem dX10_lengthOn_44 : decode cX10_lengthOn 44 = .ok (.i2l, 1) := by decide +kernel
theorem dX10_lengthOn_45 : decode cX10_lengthOn 45 = .ok (.lmul, 1) := by decide +kernel
theorem dX10_lengthOn_46 : decode cX10_lengthOn 46 = .ok (.ldc2_w 185, 3) := by decide +kernel
theorem dX10_lengthOn_49 : decode cX10_lengthOn 49 = .ok (.iload_n 2, 1) := by decide +kernel
theorem dX10_lengthOn_50 : decode cX10_lengthOn 50 = .ok (.i2l, 1) := by decide +kernel
theorem dX10_lengthOn_51 : decode cX10_lengthOn 51 = .ok (.lmul, 1) := by decide +kernel
theorem dX10_lengthOn_52 : decode cX10_lengthOn 52 = .ok (.ladd, 1) := by decide +kernel
theorem dX10_lengthOn_53 : decode cX10_lengthOn 53 = .ok (.ldc2_w 187, 3) := by decide +kernel
theorem dX10_lengthOn_56 : decode cX10_lengthOn 56 = .ok (.iload_n 3, 1) := by decide +kernel
theorem dX10_lengthOn_57 : decode cX10_lengthOn 57 = .ok (.i2l, 1) := by decide +kernel
theorem dX10_lengthOn_58 : decode cX10_lengthOn 58 = .ok (.lmul, 1) := by decide +kernel
theorem dX10_lengthOn_59 : decode cX10_lengthOn 59 = .ok (.ladd, 1) := by decide +kernel
theorem dX10_lengthOn_60 : decode cX10_lengthOn 60 = .ok (.lconst 1, 1) := by decide +kernel
theorem dX10_lengthOn_61 : decode cX10_lengthOn 61 = .ok (.ladd, 1) := by decide +kernel
theorem dX10_lengthOn_62 : decode cX10_lengthOn 62 = .ok (.lstore 5, 2) := by decide +kernel
theorem dX10_lengthOn_64 : decode cX10_lengthOn 64 = .ok (.lload 5, 2) := by decide +kernel
theorem dX10_lengthOn_66 : decode cX10_lengthOn 66 = .ok (.lload 5, 2) := by decide +kernel
theorem dX10_lengthOn_68 : decode cX10_lengthOn 68 = .ok (.lmul, 1) := by decide +kernel
theorem dX10_lengthOn_69 : decode cX10_lengthOn 69 = .ok (.ldc2_w 189, 3) := by decide +kernel
theorem dX10_lengthOn_72 : decode cX10_lengthOn 72 = .ok (.lrem, 1) := by decide +kernel
theorem dX10_lengthOn_73 : decode cX10_lengthOn 73 = .ok (.ldc2_w 191, 3) := by decide +kernel
theorem dX10_lengthOn_76 : decode cX10_lengthOn 76 = .ok (.lrem, 1) := by decide +kernel
theorem dX10_lengthOn_77 : decode cX10_lengthOn 77 = .ok (.l2i, 1) := by decide +kernel
theorem dX10_lengthOn_78 : decode cX10_lengthOn 78 = .ok (.istore 4, 2) := by decide +kernel
theorem dX10_lengthOn_80 : decode cX10_lengthOn 80 = .ok (.aload_n 0, 1) := by decide +kernel
theorem dX10_lengthOn_81 : decode cX10_lengthOn 81 = .ok (.getfield 7, 3) := by decide +kernel
theorem dX10_lengthOn_84 : decode cX10_lengthOn 84 = .ok (.iload_n 3, 1) := by decide +kernel
theorem dX10_lengthOn_85 : decode cX10_lengthOn 85 = .ok (.iaload, 1) := by decide +kernel
theorem dX10_lengthOn_86 : decode cX10_lengthOn 86 = .ok (.aload_n 0, 1) := by decide +kernel
theorem dX10_lengthOn_87 : decode cX10_lengthOn 87 = .ok (.getfield 17, 3) := by decide +kernel
theorem dX10_lengthOn_90 : decode cX10_lengthOn 90 = .ok (.iload_n 2, 1) := by decide +kernel
theorem dX10_lengthOn_91 : decode cX10_lengthOn 91 = .ok (.iaload, 1) := by decide +kernel
theorem dX10_lengthOn_92 : decode cX10_lengthOn 92 = .ok (.iadd, 1) := by decide +kernel
theorem dX10_lengthOn_93 : decode cX10_lengthOn 93 = .ok (.iload 4, 2) := by decide +kernel
theorem dX10_lengthOn_95 : decode cX10_lengthOn 95 = .ok (.iadd, 1) := by decide +kernel
theorem dX10_lengthOn_96 : decode cX10_lengthOn 96 = .ok (.iconst 3, 1) := by decide +kernel
theorem dX10_lengthOn_97 : decode cX10_lengthOn 97 = .ok (.isub, 1) := by decide +kernel
theorem dX10_lengthOn_98 : decode cX10_lengthOn 98 = .ok (.ireturn, 1) := by decide +kernel
theorem dX10_bed_0 : decode cX10_bed 0 = .ok (.aload_n 0, 1) := by decide +kernel
theorem dX10_bed_1 : decode cX10_bed 1 = .ok (.iload_n 1, 1) := by decide +kernel
theorem dX10_bed_2 : decode cX10_bed 2 = .ok (.invokevirtual 193, 3) := by decide +kernel
theorem dX10_bed_5 : decode cX10_bed 5 = .ok (.ifCond .eq 19, 3) := by decide +kernel
theorem dX10_bed_8 : decode cX10_bed 8 = .ok (.iload_n 2, 1) := by decide +kernel
theorem dX10_bed_9 : decode cX10_bed 9 = .ok (.invokestatic 196, 3) := by decide +kernel
theorem dX10_bed_12 : decode cX10_bed 12 = .ok (.ifCond .eq 12, 3) := by decide +kernel
theorem dX10_bed_15 : decode cX10_bed 15 = .ok (.aload_n 0, 1) := by decide +kernel
theorem dX10_bed_16 : decode cX10_bed 16 = .ok (.iload_n 1, 1) := by decide +kernel
theorem dX10_bed_17 : decode cX10_bed 17 = .ok (.iload_n 2, 1) := by decide +kernel
theorem dX10_bed_18 : decode cX10_bed 18 = .ok (.invokevirtual 199, 3) := by decide +kernel
theorem dX10_bed_21 : decode cX10_bed 21 = .ok (.goto 4, 3) := by decide +kernel
theorem dX10_bed_24 : decode cX10_bed 24 = .ok (.iconst (-1), 1) := by decide +kernel
theorem dX10_bed_25 : decode cX10_bed 25 = .ok (.ireturn, 1) := by decide +kernel
theorem dX10_inchesOn_0 : decode cX10_inchesOn 0 = .ok (.aload_n 0, 1) := by decide +kernel
theorem dX10_inchesOn_1 : decode cX10_inchesOn 1 = .ok (.getfield 23, 3) := by decide +kernel
theorem dX10_inchesOn_4 : decode cX10_inchesOn 4 = .ok (.iload_n 1, 1) := by decide +kernel
theorem dX10_inchesOn_5 : decode cX10_inchesOn 5 = .ok (.iaload, 1) := by decide +kernel
theorem dX10_inchesOn_6 : decode cX10_inchesOn 6 = .ok (.iconst 4, 1) := by decide +kernel
theorem dX10_inchesOn_7 : decode cX10_inchesOn 7 = .ok (.if_icmp .ne 30, 3) := by decide +kernel
theorem dX10_inchesOn_10 : decode cX10_inchesOn 10 = .ok (.iload_n 2, 1) := by decide +kernel
theorem dX10_inchesOn_11 : decode cX10_inchesOn 11 = .ok (.aload_n 0, 1) := by decide +kernel
theorem dX10_inchesOn_12 : decode cX10_inchesOn 12 = .ok (.getfield 38, 3) := by decide +kernel
theorem dX10_inchesOn_15 : decode cX10_inchesOn 15 = .ok (.bipush 14, 2) := by decide +kernel
theorem dX10_inchesOn_17 : decode cX10_inchesOn 17 = .ok (.iload_n 1, 1) := by decide +kernel
theorem dX10_inchesOn_18 : decode cX10_inchesOn 18 = .ok (.iadd, 1) := by decide +kernel
theorem dX10_inchesOn_19 : decode cX10_inchesOn 19 = .ok (.iaload, 1) := by decide +kernel
theorem dX10_inchesOn_20 : decode cX10_inchesOn 20 = .ok (.if_icmp .le 17, 3) := by decide +kernel
theorem dX10_inchesOn_23 : decode cX10_inchesOn 23 = .ok (.iload_n 2, 1) := by decide +kernel
theorem dX10_inchesOn_24 : decode cX10_inchesOn 24 = .ok (.aload_n 0, 1) := by decide +kernel
theorem dX10_inchesOn_25 : decode cX10_inchesOn 25 = .ok (.getfield 38, 3) := by decide +kernel
theorem dX10_inchesOn_28 : decode cX10_inchesOn 28 = .ok (.bipush 14, 2) := by decide +kernel
theorem dX10_inchesOn_30 : decode cX10_inchesOn 30 = .ok (.iload_n 1, 1) := by decide +kernel
theorem dX10_inchesOn_31 : decode cX10_inchesOn 31 = .ok (.iadd, 1) := by decide +kernel
theorem dX10_inchesOn_32 : decode cX10_inchesOn 32 = .ok (.iaload, 1) := by decide +kernel
theorem dX10_inchesOn_33 : decode cX10_inchesOn 33 = .ok (.isub, 1) := by decide +kernel
theorem dX10_inchesOn_34 : decode cX10_inchesOn 34 = .ok (.goto 4, 3) := by decide +kernel
theorem dX10_inchesOn_37 : decode cX10_inchesOn 37 = .ok (.iconst 0, 1) := by decide +kernel
theorem dX10_inchesOn_38 : decode cX10_inchesOn 38 = .ok (.istore_n 3, 1) := by decide +kernel
theorem dX10_inchesOn_39 : decode cX10_inchesOn 39 = .ok (.aload_n 0, 1) := by decide +kernel
theorem dX10_inchesOn_40 : decode cX10_inchesOn 40 = .ok (.getfield 20, 3) := by decide +kernel
theorem dX10_inchesOn_43 : decode cX10_inchesOn 43 = .ok (.iload_n 1, 1) := by decide +kernel
theorem dX10_inchesOn_44 : decode cX10_inchesOn 44 = .ok (.iaload, 1) := by decide +kernel
theorem dX10_inchesOn_45 : decode cX10_inchesOn 45 = .ok (.aload_n 0, 1) := by decide +kernel
theorem dX10_inchesOn_46 : decode cX10_inchesOn 46 = .ok (.getfield 38, 3) := by decide +kernel
theorem dX10_inchesOn_49 : decode cX10_inchesOn 49 = .ok (.bipush 7, 2) := by decide +kernel
theorem dX10_inchesOn_51 : decode cX10_inchesOn 51 = .ok (.iload_n 1, 1) := by decide +kernel
theorem dX10_inchesOn_52 : decode cX10_inchesOn 52 = .ok (.iadd, 1) := by decide +kernel
theorem dX10_inchesOn_53 : decode cX10_inchesOn 53 = .ok (.iaload, 1) := by decide +kernel
theorem dX10_inchesOn_54 : decode cX10_inchesOn 54 = .ok (.iadd, 1) := by decide +kernel
theorem dX10_inchesOn_55 : decode cX10_inchesOn 55 = .ok (.iload_n 3, 1) := by decide +kernel
theorem dX10_inchesOn_56 : decode cX10_inchesOn 56 = .ok (.iadd, 1) := by decide +kernel
theorem dX10_inchesOn_57 : decode cX10_inchesOn 57 = .ok (.ireturn, 1) := by decide +kernel
theorem dX10_harmBy_0 : decode cX10_harmBy 0 = .ok (.aload_n 0, 1) := by decide +kernel
theorem dX10_harmBy_1 : decode cX10_harmBy 1 = .ok (.getfield 23, 3) := by decide +kernel
theorem dX10_harmBy_4 : decode cX10_harmBy 4 = .ok (.iload_n 1, 1) := by decide +kernel
theorem dX10_harmBy_5 : decode cX10_harmBy 5 = .ok (.iaload, 1) := by decide +kernel
theorem dX10_harmBy_6 : decode cX10_harmBy 6 = .ok (.istore_n 3, 1) := by decide +kernel
theorem dX10_harmBy_7 : decode cX10_harmBy 7 = .ok (.iload_n 2, 1) := by decide +kernel
theorem dX10_harmBy_8 : decode cX10_harmBy 8 = .ok (.ifCond .ge 8, 3) := by decide +kernel
theorem dX10_harmBy_11 : decode cX10_harmBy 11 = .ok (.iload_n 2, 1) := by decide +kernel
theorem dX10_harmBy_12 : decode cX10_harmBy 12 = .ok (.ineg, 1) := by decide +kernel
theorem dX10_harmBy_13 : decode cX10_harmBy 13 = .ok (.goto 4, 3) := by decide +kernel
theorem dX10_harmBy_16 : decode cX10_harmBy 16 = .ok (.iload_n 2, 1) := by decide +kernel
theorem dX10_harmBy_17 : decode cX10_harmBy 17 = .ok (.istore 4, 2) := by decide +kernel
theorem dX10_harmBy_19 : decode cX10_harmBy 19 = .ok (.iload_n 3, 1) := by decide +kernel
theorem dX10_harmBy_20 : decode cX10_harmBy 20 = .ok (.iconst 1, 1) := by decide +kernel
theorem dX10_harmBy_21 : decode cX10_harmBy 21 = .ok (.if_icmp .ne 22, 3) := by decide +kernel
theorem dX10_harmBy_24 : decode cX10_harmBy 24 = .ok (.iload_n 2, 1) := by decide +kernel
theorem dX10_harmBy_25 : decode cX10_harmBy 25 = .ok (.ifCond .le 18, 3) := by decide +kernel
theorem dX10_harmBy_28 : decode cX10_harmBy 28 = .ok (.iload_n 2, 1) := by decide +kernel
theorem dX10_harmBy_29 : decode cX10_harmBy 29 = .ok (.bipush 6, 2) := by decide +kernel
theorem dX10_harmBy_31 : decode cX10_harmBy 31 = .ok (.if_icmp .le 10, 3) := by decide +kernel
theorem dX10_harmBy_34 : decode cX10_harmBy 34 = .ok (.iload_n 2, 1) := by decide +kernel
theorem dX10_harmBy_35 : decode cX10_harmBy 35 = .ok (.bipush 6, 2) := by decide +kernel
theorem dX10_harmBy_37 : decode cX10_harmBy 37 = .ok (.isub, 1) := by decide +kernel
theorem dX10_harmBy_38 : decode cX10_harmBy 38 = .ok (.goto 4, 3) := by decide +kernel
theorem dX10_harmBy_41 : decode cX10_harmBy 41 = .ok (.iconst 0, 1) := by decide +kernel
theorem dX10_harmBy_42 : decode cX10_harmBy 42 = .ok (.ireturn, 1) := by decide +kernel
theorem dX10_harmBy_43 : decode cX10_harmBy 43 = .ok (.iload_n 3, 1) := by decide +kernel
theorem dX10_harmBy_44 : decode cX10_harmBy 44 = .ok (.iconst 2, 1) := by decide +kernel
theorem dX10_harmBy_45 : decode cX10_harmBy 45 = .ok (.if_icmp .ne 12, 3) := by decide +kernel
theorem dX10_harmBy_48 : decode cX10_harmBy 48 = .ok (.iload_n 2, 1) := by decide +kernel
theorem dX10_harmBy_49 : decode cX10_harmBy 49 = .ok (.ifCond .ge 8, 3) := by decide +kernel
theorem dX10_harmBy_52 : decode cX10_harmBy 52 = .ok (.iconst 2, 1) := by decide +kernel
theorem dX10_harmBy_53 : decode cX10_harmBy 53 = .ok (.iload 4, 2) := by decide +kernel
theorem dX10_harmBy_55 : decode cX10_harmBy 55 = .ok (.imul, 1) := by decide +kernel
theorem dX10_harmBy_56 : decode cX10_harmBy 56 = .ok (.ireturn, 1) := by decide +kernel
theorem dX10_harmBy_57 : decode cX10_harmBy 57 = .ok (.iload_n 3, 1) := by decide +kernel
theorem dX10_harmBy_58 : decode cX10_harmBy 58 = .ok (.iconst 3, 1) := by decide +kernel
theorem dX10_harmBy_59 : decode cX10_harmBy 59 = .ok (.if_icmp .eq 8, 3) := by decide +kernel
theorem dX10_harmBy_62 : decode cX10_harmBy 62 = .ok (.iload 4, 2) := by decide +kernel
theorem dX10_harmBy_64 : decode cX10_harmBy 64 = .ok (.goto 17, 3) := by decide +kernel
theorem dX10_harmBy_67 : decode cX10_harmBy 67 = .ok (.iload 4, 2) := by decide +kernel
theorem dX10_harmBy_69 : decode cX10_harmBy 69 = .ok (.iconst 2, 1) := by decide +kernel
theorem dX10_harmBy_70 : decode cX10_harmBy 70 = .ok (.if_icmp .le 10, 3) := by decide +kernel
theorem dX10_harmBy_73 : decode cX10_harmBy 73 = .ok (.iload 4, 2) := by decide +kernel
theorem dX10_harmBy_75 : decode cX10_harmBy 75 = .ok (.iconst 2, 1) := by decide +kernel
theorem dX10_harmBy_76 : decode cX10_harmBy 76 = .ok (.isub, 1) := by decide +kernel
theorem dX10_harmBy_77 : decode cX10_harmBy 77 = .ok (.goto 4, 3) := by decide +kernel
theorem dX10_harmBy_80 : decode cX10_harmBy 80 = .ok (.iconst 0, 1) := by decide +kernel
theorem dX10_harmBy_81 : decode cX10_harmBy 81 = .ok (.ireturn, 1) := by decide +kernel
theorem dX10_harmOf_0 : decode cX10_harmOf 0 = .ok (.aload_n 0, 1) := by decide +kernel
theorem dX10_harmOf_1 : decode cX10_harmOf 1 = .ok (.iload_n 1, 1) := by decide +kernel
theorem dX10_harmOf_2 : decode cX10_harmOf 2 = .ok (.aload_n 0, 1) := by decide +kernel
theorem dX10_harmOf_3 : decode cX10_harmOf 3 = .ok (.iload_n 1, 1) := by decide +kernel
theorem dX10_harmOf_4 : decode cX10_harmOf 4 = .ok (.iload_n 3, 1) := by decide +kernel
theorem dX10_harmOf_5 : decode cX10_harmOf 5 = .ok (.invokevirtual 203, 3) := by decide +kernel
theorem dX10_harmOf_8 : decode cX10_harmOf 8 = .ok (.aload_n 0, 1) := by decide +kernel
theorem dX10_harmOf_9 : decode cX10_harmOf 9 = .ok (.iload_n 2, 1) := by decide +kernel
theorem dX10_harmOf_10 : decode cX10_harmOf 10 = .ok (.iload_n 3, 1) := by decide +kernel
theorem dX10_harmOf_11 : decode cX10_harmOf 11 = .ok (.invokevirtual 199, 3) := by decide +kernel
theorem dX10_harmOf_14 : decode cX10_harmOf 14 = .ok (.isub, 1) := by decide +kernel
theorem dX10_harmOf_15 : decode cX10_harmOf 15 = .ok (.invokevirtual 206, 3) := by decide +kernel
theorem dX10_harmOf_18 : decode cX10_harmOf 18 = .ok (.ireturn, 1) := by decide +kernel
theorem dX10_harm_0 : decode cX10_harm 0 = .ok (.aload_n 0, 1) := by decide +kernel
theorem dX10_harm_1 : decode cX10_harm 1 = .ok (.iload_n 1, 1) := by decide +kernel
theorem dX10_harm_2 : decode cX10_harm 2 = .ok (.invokevirtual 209, 3) := by decide +kernel
theorem dX10_harm_5 : decode cX10_harm 5 = .ok (.ifCond .eq 28, 3) := by decide +kernel
theorem dX10_harm_8 : decode cX10_harm 8 = .ok (.aload_n 0, 1) := by decide +kernel
theorem dX10_harm_9 : decode cX10_harm 9 = .ok (.iload_n 2, 1) := by decide +kernel
theorem dX10_harm_10 : decode cX10_harm 10 = .ok (.invokevirtual 193, 3) := by decide +kernel
theorem dX10_harm_13 : decode cX10_harm 13 = .ok (.ifCond .eq 20, 3) := by decide +kernel
theorem dX10_harm_16 : decode cX10_harm 16 = .ok (.iload_n 3, 1) := by decide +kernel
theorem dX10_harm_17 : decode cX10_harm 17 = .ok (.invokestatic 196, 3) := by decide +kernel
theorem dX10_harm_20 : decode cX10_harm 20 = .ok (.ifCond .eq 13, 3) := by decide +kernel
theorem dX10_harm_23 : decode cX10_harm 23 = .ok (.aload_n 0, 1) := by decide +kernel
theorem dX10_harm_24 : decode cX10_harm 24 = .ok (.iload_n 1, 1) := by decide +kernel
theorem dX10_harm_25 : decode cX10_harm 25 = .ok (.iload_n 2, 1) := by decide +kernel
theorem dX10_harm_26 : decode cX10_harm 26 = .ok (.iload_n 3, 1) := by decide +kernel
theorem dX10_harm_27 : decode cX10_harm 27 = .ok (.invokevirtual 212, 3) := by decide +kernel
theorem dX10_harm_30 : decode cX10_harm 30 = .ok (.goto 4, 3) := by decide +kernel
theorem dX10_harm_33 : decode cX10_harm 33 = .ok (.iconst (-1), 1) := by decide +kernel
theorem dX10_harm_34 : decode cX10_harm 34 = .ok (.ireturn, 1) := by decide +kernel
theorem dX10_placeOf_0 : decode cX10_placeOf 0 = .ok (.iconst 0, 1) := by decide +kernel
theorem dX10_placeOf_1 : decode cX10_placeOf 1 = .ok (.istore_n 2, 1) := by decide +kernel
theorem dX10_placeOf_2 : decode cX10_placeOf 2 = .ok (.aload_n 0, 1) := by decide +kernel
theorem dX10_placeOf_3 : decode cX10_placeOf 3 = .ok (.getfield 38, 3) := by decide +kernel
theorem dX10_placeOf_6 : decode cX10_placeOf 6 = .ok (.iload_n 2, 1) := by decide +kernel
theorem dX10_placeOf_7 : decode cX10_placeOf 7 = .ok (.iaload, 1) := by decide +kernel
theorem dX10_placeOf_8 : decode cX10_placeOf 8 = .ok (.iload_n 1, 1) := by decide +kernel
theorem dX10_placeOf_9 : decode cX10_placeOf 9 = .ok (.if_icmp .eq 9, 3) := by decide +kernel
theorem dX10_placeOf_12 : decode cX10_placeOf 12 = .ok (.iinc 2 1, 3) := by decide +kernel
theorem dX10_placeOf_15 : decode cX10_placeOf 15 = .ok (.goto (-13), 3) := by decide +kernel
theorem dX10_placeOf_18 : decode cX10_placeOf 18 = .ok (.iload_n 2, 1) := by decide +kernel
theorem dX10_placeOf_19 : decode cX10_placeOf 19 = .ok (.ireturn, 1) := by decide +kernel
theorem dX10_guest_0 : decode cX10_guest 0 = .ok (.aload_n 0, 1) := by decide +kernel
theorem dX10_guest_1 : decode cX10_guest 1 = .ok (.iload_n 1, 1) := by decide +kernel
theorem dX10_guest_2 : decode cX10_guest 2 = .ok (.invokevirtual 209, 3) := by decide +kernel
theorem dX10_guest_5 : decode cX10_guest 5 = .ok (.ifCond .ne 5, 3) := by decide +kernel
theorem dX10_guest_8 : decode cX10_guest 8 = .ok (.iconst (-1), 1) := by decide +kernel
theorem dX10_guest_9 : decode cX10_guest 9 = .ok (.ireturn, 1) := by decide +kernel
theorem dX10_guest_10 : decode cX10_guest 10 = .ok (.iload_n 2, 1) := by decide +kernel
theorem dX10_guest_11 : decode cX10_guest 11 = .ok (.tableswitch 87 0 5 #[37, 44, 54, 61, 74, 81], 37) := by decide +kernel
theorem dX10_guest_48 : decode cX10_guest 48 = .ok (.aload_n 0, 1) := by decide +kernel
theorem dX10_guest_49 : decode cX10_guest 49 = .ok (.getfield 20, 3) := by decide +kernel
theorem dX10_guest_52 : decode cX10_guest 52 = .ok (.iload_n 1, 1) := by decide +kernel
theorem dX10_guest_53 : decode cX10_guest 53 = .ok (.iaload, 1) := by decide +kernel
theorem dX10_guest_54 : decode cX10_guest 54 = .ok (.ireturn, 1) := by decide +kernel
theorem dX10_guest_55 : decode cX10_guest 55 = .ok (.aload_n 0, 1) := by decide +kernel
theorem dX10_guest_56 : decode cX10_guest 56 = .ok (.getfield 38, 3) := by decide +kernel
theorem dX10_guest_59 : decode cX10_guest 59 = .ok (.bipush 14, 2) := by decide +kernel
theorem dX10_guest_61 : decode cX10_guest 61 = .ok (.iload_n 1, 1) := by decide +kernel
theorem dX10_guest_62 : decode cX10_guest 62 = .ok (.iadd, 1) := by decide +kernel
theorem dX10_guest_63 : decode cX10_guest 63 = .ok (.iaload, 1) := by decide +kernel
theorem dX10_guest_64 : decode cX10_guest 64 = .ok (.ireturn, 1) := by decide +kernel
theorem dX10_guest_65 : decode cX10_guest 65 = .ok (.aload_n 0, 1) := by decide +kernel
theorem dX10_guest_66 : decode cX10_guest 66 = .ok (.getfield 23, 3) := by decide +kernel
theorem dX10_guest_69 : decode cX10_guest 69 = .ok (.iload_n 1, 1) := by decide +kernel
theorem dX10_guest_70 : decode cX10_guest 70 = .ok (.iaload, 1) := by decide +kernel
