theorem dX6_add_26 : decode cX6_add 26 = .ok (.getfield 24, 3) := by decide +kernel
theorem dX6_add_29 : decode cX6_add 29 = .ok (.iload_n 2, 1) := by decide +kernel
theorem dX6_add_30 : decode cX6_add 30 = .ok (.iastore, 1) := by decide +kernel
theorem dX6_add_31 : decode cX6_add 31 = .ok (.aload_n 0, 1) := by decide +kernel
theorem dX6_add_32 : decode cX6_add 32 = .ok (.getfield 18, 3) := by decide +kernel
theorem dX6_add_35 : decode cX6_add 35 = .ok (.aload_n 0, 1) := by decide +kernel
theorem dX6_add_36 : decode cX6_add 36 = .ok (.getfield 24, 3) := by decide +kernel
theorem dX6_add_39 : decode cX6_add 39 = .ok (.iload_n 3, 1) := by decide +kernel
theorem dX6_add_40 : decode cX6_add 40 = .ok (.iastore, 1) := by decide +kernel
theorem dX6_add_41 : decode cX6_add 41 = .ok (.aload_n 0, 1) := by decide +kernel
theorem dX6_add_42 : decode cX6_add 42 = .ok (.dup, 1) := by decide +kernel
theorem dX6_add_43 : decode cX6_add 43 = .ok (.getfield 24, 3) := by decide +kernel
theorem dX6_add_46 : decode cX6_add 46 = .ok (.iconst 1, 1) := by decide +kernel
theorem dX6_add_47 : decode cX6_add 47 = .ok (.iadd, 1) := by decide +kernel
theorem dX6_add_48 : decode cX6_add 48 = .ok (.putfield 24, 3) := by decide +kernel
theorem dX6_add_51 : decode cX6_add 51 = .ok (.iconst 1, 1) := by decide +kernel
theorem dX6_add_52 : decode cX6_add 52 = .ok (.ireturn, 1) := by decide +kernel
theorem dX6_sleepersOf_0 : decode cX6_sleepersOf 0 = .ok (.aload_n 1, 1) := by decide +kernel
theorem dX6_sleepersOf_1 : decode cX6_sleepersOf 1 = .ok (.getfield 28, 3) := by decide +kernel
theorem dX6_sleepersOf_4 : decode cX6_sleepersOf 4 = .ok (.aload_n 0, 1) := by decide +kernel
theorem dX6_sleepersOf_5 : decode cX6_sleepersOf 5 = .ok (.getfield 9, 3) := by decide +kernel
theorem dX6_sleepersOf_8 : decode cX6_sleepersOf 8 = .ok (.iload_n 2, 1) := by decide +kernel
theorem dX6_sleepersOf_9 : decode cX6_sleepersOf 9 = .ok (.iaload, 1) := by decide +kernel
theorem dX6_sleepersOf_10 : decode cX6_sleepersOf 10 = .ok (.aload_n 0, 1) := by decide +kernel
theorem dX6_sleepersOf_11 : decode cX6_sleepersOf 11 = .ok (.getfield 15, 3) := by decide +kernel
theorem dX6_sleepersOf_14 : decode cX6_sleepersOf 14 = .ok (.iload_n 2, 1) := by decide +kernel
theorem dX6_sleepersOf_15 : decode cX6_sleepersOf 15 = .ok (.iaload, 1) := by decide +kernel
theorem dX6_sleepersOf_16 : decode cX6_sleepersOf 16 = .ok (.invokevirtual 33, 3) := by decide +kernel
theorem dX6_sleepersOf_19 : decode cX6_sleepersOf 19 = .ok (.istore_n 3, 1) := by decide +kernel
theorem dX6_sleepersOf_20 : decode cX6_sleepersOf 20 = .ok (.aload_n 1, 1) := by decide +kernel
theorem dX6_sleepersOf_21 : decode cX6_sleepersOf 21 = .ok (.getfield 39, 3) := by decide +kernel
theorem dX6_sleepersOf_24 : decode cX6_sleepersOf 24 = .ok (.aload_n 0, 1) := by decide +kernel
theorem dX6_sleepersOf_25 : decode cX6_sleepersOf 25 = .ok (.getfield 15, 3) := by decide +kernel
theorem dX6_sleepersOf_28 : decode cX6_sleepersOf 28 = .ok (.iload_n 2, 1) := by decide +kernel
theorem dX6_sleepersOf_29 : decode cX6_sleepersOf 29 = .ok (.iaload, 1) := by decide +kernel
theorem dX6_sleepersOf_30 : decode cX6_sleepersOf 30 = .ok (.invokevirtual 43, 3) := by decide +kernel
theorem dX6_sleepersOf_33 : decode cX6_sleepersOf 33 = .ok (.istore 4, 2) := by decide +kernel
theorem dX6_sleepersOf_35 : decode cX6_sleepersOf 35 = .ok (.iconst 0, 1) := by decide +kernel
theorem dX6_sleepersOf_36 : decode cX6_sleepersOf 36 = .ok (.istore 5, 2) := by decide +kernel
theorem dX6_sleepersOf_38 : decode cX6_sleepersOf 38 = .ok (.iconst 0, 1) := by decide +kernel
theorem dX6_sleepersOf_39 : decode cX6_sleepersOf 39 = .ok (.istore 6, 2) := by decide +kernel
theorem dX6_sleepersOf_41 : decode cX6_sleepersOf 41 = .ok (.iload 6, 2) := by decide +kernel
theorem dX6_sleepersOf_43 : decode cX6_sleepersOf 43 = .ok (.aload_n 1, 1) := by decide +kernel
theorem dX6_sleepersOf_44 : decode cX6_sleepersOf 44 = .ok (.getfield 39, 3) := by decide +kernel
theorem dX6_sleepersOf_47 : decode cX6_sleepersOf 47 = .ok (.getfield 49, 3) := by decide +kernel
theorem dX6_sleepersOf_50 : decode cX6_sleepersOf 50 = .ok (.if_icmp .ge 53, 3) := by decide +kernel
theorem dX6_sleepersOf_53 : decode cX6_sleepersOf 53 = .ok (.iload 4, 2) := by decide +kernel
theorem dX6_sleepersOf_55 : decode cX6_sleepersOf 55 = .ok (.iload 6, 2) := by decide +kernel
theorem dX6_sleepersOf_57 : decode cX6_sleepersOf 57 = .ok (.invokestatic 50, 3) := by decide +kernel
theorem dX6_sleepersOf_60 : decode cX6_sleepersOf 60 = .ok (.ifCond .eq 37, 3) := by decide +kernel
theorem dX6_sleepersOf_63 : decode cX6_sleepersOf 63 = .ok (.aload_n 1, 1) := by decide +kernel
theorem dX6_sleepersOf_64 : decode cX6_sleepersOf 64 = .ok (.getfield 39, 3) := by decide +kernel
theorem dX6_sleepersOf_67 : decode cX6_sleepersOf 67 = .ok (.iload 6, 2) := by decide +kernel
theorem dX6_sleepersOf_69 : decode cX6_sleepersOf 69 = .ok (.aload_n 0, 1) := by decide +kernel
theorem dX6_sleepersOf_70 : decode cX6_sleepersOf 70 = .ok (.getfield 15, 3) := by decide +kernel
theorem dX6_sleepersOf_73 : decode cX6_sleepersOf 73 = .ok (.iload_n 2, 1) := by decide +kernel
theorem dX6_sleepersOf_74 : decode cX6_sleepersOf 74 = .ok (.iaload, 1) := by decide +kernel
theorem dX6_sleepersOf_75 : decode cX6_sleepersOf 75 = .ok (.iload_n 3, 1) := by decide +kernel
theorem dX6_sleepersOf_76 : decode cX6_sleepersOf 76 = .ok (.invokevirtual 54, 3) := by decide +kernel
theorem dX6_sleepersOf_79 : decode cX6_sleepersOf 79 = .ok (.aload_n 0, 1) := by decide +kernel
theorem dX6_sleepersOf_80 : decode cX6_sleepersOf 80 = .ok (.getfield 18, 3) := by decide +kernel
theorem dX6_sleepersOf_83 : decode cX6_sleepersOf 83 = .ok (.iload_n 2, 1) := by decide +kernel
theorem dX6_sleepersOf_84 : decode cX6_sleepersOf 84 = .ok (.iaload, 1) := by decide +kernel
theorem dX6_sleepersOf_85 : decode cX6_sleepersOf 85 = .ok (.if_icmp .ne 12, 3) := by decide +kernel
theorem dX6_sleepersOf_88 : decode cX6_sleepersOf 88 = .ok (.iload 5, 2) := by decide +kernel
theorem dX6_sleepersOf_90 : decode cX6_sleepersOf 90 = .ok (.iconst 1, 1) := by decide +kernel
theorem dX6_sleepersOf_91 : decode cX6_sleepersOf 91 = .ok (.iload 6, 2) := by decide +kernel
theorem dX6_sleepersOf_93 : decode cX6_sleepersOf 93 = .ok (.ishl, 1) := by decide +kernel
theorem dX6_sleepersOf_94 : decode cX6_sleepersOf 94 = .ok (.ior, 1) := by decide +kernel
theorem dX6_sleepersOf_95 : decode cX6_sleepersOf 95 = .ok (.istore 5, 2) := by decide +kernel
theorem dX6_sleepersOf_97 : decode cX6_sleepersOf 97 = .ok (.iinc 6 1, 3) := by decide +kernel
theorem dX6_sleepersOf_100 : decode cX6_sleepersOf 100 = .ok (.goto (-59), 3) := by decide +kernel
theorem dX6_sleepersOf_103 : decode cX6_sleepersOf 103 = .ok (.iload 5, 2) := by decide +kernel
theorem dX6_sleepersOf_105 : decode cX6_sleepersOf 105 = .ok (.ireturn, 1) := by decide +kernel
theorem dX6_ways_0 : decode cX6_ways 0 = .ok (.iconst 0, 1) := by decide +kernel
theorem dX6_ways_1 : decode cX6_ways 1 = .ok (.istore 4, 2) := by decide +kernel
theorem dX6_ways_3 : decode cX6_ways 3 = .ok (.iload 4, 2) := by decide +kernel
theorem dX6_ways_5 : decode cX6_ways 5 = .ok (.sipush 128, 3) := by decide +kernel
theorem dX6_ways_8 : decode cX6_ways 8 = .ok (.if_icmp .ge 17, 3) := by decide +kernel
theorem dX6_ways_11 : decode cX6_ways 11 = .ok (.aload_n 0, 1) := by decide +kernel
theorem dX6_ways_12 : decode cX6_ways 12 = .ok (.getfield 21, 3) := by decide +kernel
theorem dX6_ways_15 : decode cX6_ways 15 = .ok (.iload 4, 2) := by decide +kernel
theorem dX6_ways_17 : decode cX6_ways 17 = .ok (.iconst 0, 1) := by decide +kernel
theorem dX6_ways_18 : decode cX6_ways 18 = .ok (.iastore, 1) := by decide +kernel
theorem dX6_ways_19 : decode cX6_ways 19 = .ok (.iinc 4 1, 3) := by decide +kernel
theorem dX6_ways_22 : decode cX6_ways 22 = .ok (.goto (-19), 3) := by decide +kernel
theorem dX6_ways_25 : decode cX6_ways 25 = .ok (.aload_n 0, 1) := by decide +kernel
theorem dX6_ways_26 : decode cX6_ways 26 = .ok (.getfield 21, 3) := by decide +kernel
theorem dX6_ways_29 : decode cX6_ways 29 = .ok (.iconst 0, 1) := by decide +kernel
theorem dX6_ways_30 : decode cX6_ways 30 = .ok (.iconst 1, 1) := by decide +kernel
theorem dX6_ways_31 : decode cX6_ways 31 = .ok (.iastore, 1) := by decide +kernel
theorem dX6_ways_32 : decode cX6_ways 32 = .ok (.iconst 0, 1) := by decide +kernel
theorem dX6_ways_33 : decode cX6_ways 33 = .ok (.istore 4, 2) := by decide +kernel
theorem dX6_ways_35 : decode cX6_ways 35 = .ok (.iload 4, 2) := by decide +kernel
theorem dX6_ways_37 : decode cX6_ways 37 = .ok (.aload_n 0, 1) := by decide +kernel
theorem dX6_ways_38 : decode cX6_ways 38 = .ok (.getfield 24, 3) := by decide +kernel
theorem dX6_ways_41 : decode cX6_ways 41 = .ok (.if_icmp .ge 39, 3) := by decide +kernel
theorem dX6_ways_44 : decode cX6_ways 44 = .ok (.aload_n 0, 1) := by decide +kernel
theorem dX6_ways_45 : decode cX6_ways 45 = .ok (.aload_n 1, 1) := by decide +kernel
theorem dX6_ways_46 : decode cX6_ways 46 = .ok (.iload 4, 2) := by decide +kernel
theorem dX6_ways_48 : decode cX6_ways 48 = .ok (.invokevirtual 58, 3) := by decide +kernel
theorem dX6_ways_51 : decode cX6_ways 51 = .ok (.istore 5, 2) := by decide +kernel
theorem dX6_ways_53 : decode cX6_ways 53 = .ok (.aload_n 0, 1) := by decide +kernel
theorem dX6_ways_54 : decode cX6_ways 54 = .ok (.iload 4, 2) := by decide +kernel
theorem dX6_ways_56 : decode cX6_ways 56 = .ok (.iload 4, 2) := by decide +kernel
theorem dX6_ways_58 : decode cX6_ways 58 = .ok (.iload_n 2, 1) := by decide +kernel
theorem dX6_ways_59 : decode cX6_ways 59 = .ok (.if_icmp .ne 10, 3) := by decide +kernel
theorem dX6_ways_62 : decode cX6_ways 62 = .ok (.iload 5, 2) := by decide +kernel
theorem dX6_ways_64 : decode cX6_ways 64 = .ok (.iload_n 3, 1) := by decide +kernel
theorem dX6_ways_65 : decode cX6_ways 65 = .ok (.iand, 1) := by decide +kernel
theorem dX6_ways_66 : decode cX6_ways 66 = .ok (.goto 5, 3) := by decide +kernel
theorem dX6_ways_69 : decode cX6_ways 69 = .ok (.iload 5, 2) := by decide +kernel
theorem dX6_ways_71 : decode cX6_ways 71 = .ok (.invokevirtual 62, 3) := by decide +kernel
theorem dX6_ways_74 : decode cX6_ways 74 = .ok (.iinc 4 1, 3) := by decide +kernel
theorem dX6_ways_77 : decode cX6_ways 77 = .ok (.goto (-42), 3) := by decide +kernel
theorem dX6_ways_80 : decode cX6_ways 80 = .ok (.iconst 0, 1) := by decide +kernel
theorem dX6_ways_81 : decode cX6_ways 81 = .ok (.istore 4, 2) := by decide +kernel
theorem dX6_ways_83 : decode cX6_ways 83 = .ok (.iconst 0, 1) := by decide +kernel
theorem dX6_ways_84 : decode cX6_ways 84 = .ok (.istore 5, 2) := by decide +kernel
theorem dX6_ways_86 : decode cX6_ways 86 = .ok (.iload 5, 2) := by decide +kernel
theorem dX6_ways_88 : decode cX6_ways 88 = .ok (.sipush 128, 3) := by decide +kernel
theorem dX6_ways_91 : decode cX6_ways 91 = .ok (.if_icmp .ge 33, 3) := by decide +kernel
theorem dX6_ways_94 : decode cX6_ways 94 = .ok (.iload 5, 2) := by decide +kernel
theorem dX6_ways_96 : decode cX6_ways 96 = .ok (.invokestatic 66, 3) := by decide +kernel
theorem dX6_ways_99 : decode cX6_ways 99 = .ok (.aload_n 0, 1) := by decide +kernel
theorem dX6_ways_100 : decode cX6_ways 100 = .ok (.getfield 24, 3) := by decide +kernel
theorem dX6_ways_103 : decode cX6_ways 103 = .ok (.if_icmp .ne 15, 3) := by decide +kernel
theorem dX6_ways_106 : decode cX6_ways 106 = .ok (.iload 4, 2) := by decide +kernel
theorem dX6_ways_108 : decode cX6_ways 108 = .ok (.aload_n 0, 1) := by decide +kernel
theorem dX6_ways_109 : decode cX6_ways 109 = .ok (.getfield 21, 3) := by decide +kernel
theorem dX6_ways_112 : decode cX6_ways 112 = .ok (.iload 5, 2) := by decide +kernel
theorem dX6_ways_114 : decode cX6_ways 114 = .ok (.iaload, 1) := by decide +kernel
theorem dX6_ways_115 : decode cX6_ways 115 = .ok (.iadd, 1) := by decide +kernel
theorem dX6_ways_116 : decode cX6_ways 116 = .ok (.istore 4, 2) := by decide +kernel
theorem dX6_ways_118 : decode cX6_ways 118 = .ok (.iinc 5 1, 3) := by decide +kernel
theorem dX6_ways_121 : decode cX6_ways 121 = .ok (.goto (-35), 3) := by decide +kernel
theorem dX6_ways_124 : decode cX6_ways 124 = .ok (.iload 4, 2) := by decide +kernel
theorem dX6_ways_126 : decode cX6_ways 126 = .ok (.ireturn, 1) := by decide +kernel
theorem dX6_addOne_0 : decode cX6_addOne 0 = .ok (.iconst 0, 1) := by decide +kernel
theorem dX6_addOne_1 : decode cX6_addOne 1 = .ok (.istore_n 3, 1) := by decide +kernel
theorem dX6_addOne_2 : decode cX6_addOne 2 = .ok (.iload_n 3, 1) := by decide +kernel
theorem dX6_addOne_3 : decode cX6_addOne 3 = .ok (.sipush 128, 3) := by decide +kernel
theorem dX6_addOne_6 : decode cX6_addOne 6 = .ok (.if_icmp .ge 75, 3) := by decide +kernel
theorem dX6_addOne_9 : decode cX6_addOne 9 = .ok (.iload_n 3, 1) := by decide +kernel
theorem dX6_addOne_10 : decode cX6_addOne 10 = .ok (.invokestatic 66, 3) := by decide +kernel
theorem dX6_addOne_13 : decode cX6_addOne 13 = .ok (.iload_n 1, 1) := by decide +kernel
theorem dX6_addOne_14 : decode cX6_addOne 14 = .ok (.if_icmp .ne 61, 3) := by decide +kernel
theorem dX6_addOne_17 : decode cX6_addOne 17 = .ok (.aload_n 0, 1) := by decide +kernel
theorem dX6_addOne_18 : decode cX6_addOne 18 = .ok (.getfield 21, 3) := by decide +kernel
theorem dX6_addOne_21 : decode cX6_addOne 21 = .ok (.iload_n 3, 1) := by decide +kernel
theorem dX6_addOne_22 : decode cX6_addOne 22 = .ok (.iaload, 1) := by decide +kernel
theorem dX6_addOne_23 : decode cX6_addOne 23 = .ok (.ifCond .le 52, 3) := by decide +kernel
theorem dX6_addOne_26 : decode cX6_addOne 26 = .ok (.iconst 0, 1) := by decide +kernel
theorem dX6_addOne_27 : decode cX6_addOne 27 = .ok (.istore 4, 2) := by decide +kernel
theorem dX6_addOne_29 : decode cX6_addOne 29 = .ok (.iload 4, 2) := by decide +kernel
theorem dX6_addOne_31 : decode cX6_addOne 31 = .ok (.bipush 7, 2) := by decide +kernel
theorem dX6_addOne_33 : decode cX6_addOne 33 = .ok (.if_icmp .ge 42, 3) := by decide +kernel
theorem dX6_addOne_36 : decode cX6_addOne 36 = .ok (.iload_n 2, 1) := by decide +kernel
theorem dX6_addOne_37 : decode cX6_addOne 37 = .ok (.iload_n 3, 1) := by decide +kernel
theorem dX6_addOne_38 : decode cX6_addOne 38 = .ok (.iconst (-1), 1) := by decide +kernel
theorem dX6_addOne_39 : decode cX6_addOne 39 = .ok (.ixor, 1) := by decide +kernel
theorem dX6_addOne_40 : decode cX6_addOne 40 = .ok (.iand, 1) := by decide +kernel
theorem dX6_addOne_41 : decode cX6_addOne 41 = .ok (.iload 4, 2) := by decide +kernel
theorem dX6_addOne_43 : decode cX6_addOne 43 = .ok (.invokestatic 50, 3) := by decide +kernel
theorem dX6_addOne_46 : decode cX6_addOne 46 = .ok (.ifCond .eq 23, 3) := by decide +kernel
theorem dX6_addOne_49 : decode cX6_addOne 49 = .ok (.aload_n 0, 1) := by decide +kernel
theorem dX6_addOne_50 : decode cX6_addOne 50 = .ok (.getfield 21, 3) := by decide +kernel
theorem dX6_addOne_53 : decode cX6_addOne 53 = .ok (.iload_n 3, 1) := by decide +kernel
theorem dX6_addOne_54 : decode cX6_addOne 54 = .ok (.iconst 1, 1) := by decide +kernel
theorem dX6_addOne_55 : decode cX6_addOne 55 = .ok (.iload 4, 2) := by decide +kernel
theorem dX6_addOne_57 : decode cX6_addOne 57 = .ok (.ishl, 1) := by decide +kernel
theorem dX6_addOne_58 : decode cX6_addOne 58 = .ok (.ior, 1) := by decide +kernel
theorem dX6_addOne_59 : decode cX6_addOne 59 = .ok (.dup2, 1) := by decide +kernel
theorem dX6_addOne_60 : decode cX6_addOne 60 = .ok (.iaload, 1) := by decide +kernel
theorem dX6_addOne_61 : decode cX6_addOne 61 = .ok (.aload_n 0, 1) := by decide +kernel
theorem dX6_addOne_62 : decode cX6_addOne 62 = .ok (.getfield 21, 3) := by decide +kernel
theorem dX6_addOne_65 : decode cX6_addOne 65 = .ok (.iload_n 3, 1) := by decide +kernel
theorem dX6_addOne_66 : decode cX6_addOne 66 = .ok (.iaload, 1) := by decide +kernel
theorem dX6_addOne_67 : decode cX6_addOne 67 = .ok (.iadd, 1) := by decide +kernel
theorem dX6_addOne_68 : decode cX6_addOne 68 = .ok (.iastore, 1) := by decide +kernel
theorem dX6_addOne_69 : decode cX6_addOne 69 = .ok (.iinc 4 1, 3) := by decide +kernel
theorem dX6_addOne_72 : decode cX6_addOne 72 = .ok (.goto (-43), 3) := by decide +kernel
theorem dX6_addOne_75 : decode cX6_addOne 75 = .ok (.iinc 3 1, 3) := by decide +kernel
theorem dX6_addOne_78 : decode cX6_addOne 78 = .ok (.goto (-76), 3) := by decide +kernel
theorem dX6_addOne_81 : decode cX6_addOne 81 = .ok (.return_, 1) := by decide +kernel
theorem dX6_onlySleeperOf_0 : decode cX6_onlySleeperOf 0 = .ok (.aload_n 0, 1) := by decide +kernel
theorem dX6_onlySleeperOf_1 : decode cX6_onlySleeperOf 1 = .ok (.aload_n 1, 1) := by decide +kernel
theorem dX6_onlySleeperOf_2 : decode cX6_onlySleeperOf 2 = .ok (.bipush (-4), 2) := by decide +kernel
theorem dX6_onlySleeperOf_4 : decode cX6_onlySleeperOf 4 = .ok (.iconst 0, 1) := by decide +kernel
theorem dX6_onlySleeperOf_5 : decode cX6_onlySleeperOf 5 = .ok (.invokevirtual 71, 3) := by decide +kernel
theorem dX6_onlySleeperOf_8 : decode cX6_onlySleeperOf 8 = .ok (.istore_n 3, 1) := by decide +kernel
theorem dX6_onlySleeperOf_9 : decode cX6_onlySleeperOf 9 = .ok (.iconst 0, 1) := by decide +kernel
theorem dX6_onlySleeperOf_10 : decode cX6_onlySleeperOf 10 = .ok (.istore 4, 2) := by decide +kernel
theorem dX6_onlySleeperOf_12 : decode cX6_onlySleeperOf 12 = .ok (.iload 4, 2) := by decide +kernel
theorem dX6_onlySleeperOf_14 : decode cX6_onlySleeperOf 14 = .ok (.aload_n 1, 1) := by decide +kernel
theorem dX6_onlySleeperOf_15 : decode cX6_onlySleeperOf 15 = .ok (.getfield 39, 3) := by decide +kernel
theorem dX6_onlySleeperOf_18 : decode cX6_onlySleeperOf 18 = .ok (.getfield 49, 3) := by decide +kernel
theorem dX6_onlySleeperOf_21 : decode cX6_onlySleeperOf 21 = .ok (.if_icmp .ge 30, 3) := by decide +kernel
theorem dX6_onlySleeperOf_24 : decode cX6_onlySleeperOf 24 = .ok (.iload_n 3, 1) := by decide +kernel
theorem dX6_onlySleeperOf_25 : decode cX6_onlySleeperOf 25 = .ok (.ifCond .le 26, 3) := by decide +kernel
theorem dX6_onlySleeperOf_28 : decode cX6_onlySleeperOf 28 = .ok (.aload_n 0, 1) := by decide +kernel
theorem dX6_onlySleeperOf_29 : decode cX6_onlySleeperOf 29 = .ok (.aload_n 1, 1) := by decide +kernel
theorem dX6_onlySleeperOf_30 : decode cX6_onlySleeperOf 30 = .ok (.iload_n 2, 1) := by decide +kernel
theorem dX6_onlySleeperOf_31 : decode cX6_onlySleeperOf 31 = .ok (.iconst 1, 1) := by decide +kernel
theorem dX6_onlySleeperOf_32 : decode cX6_onlySleeperOf 32 = .ok (.iload 4, 2) := by decide +kernel
theorem dX6_onlySleeperOf_34 : decode cX6_onlySleeperOf 34 = .ok (.ishl, 1) := by decide +kernel
theorem dX6_onlySleeperOf_35 : decode cX6_onlySleeperOf 35 = .ok (.invokevirtual 71, 3) := by decide +kernel
theorem dX6_onlySleeperOf_38 : decode cX6_onlySleeperOf 38 = .ok (.iload_n 3, 1) := by decide +kernel
theorem dX6_onlySleeperOf_39 : decode cX6_onlySleeperOf 39 = .ok (.if_icmp .ne 6, 3) := by decide +kernel
theorem dX6_onlySleeperOf_42 : decode cX6_onlySleeperOf 42 = .ok (.iload 4, 2) := by decide +kernel
theorem dX6_onlySleeperOf_44 : decode cX6_onlySleeperOf 44 = .ok (.ireturn, 1) := by decide +kernel
theorem dX6_onlySleeperOf_45 : decode cX6_onlySleeperOf 45 = .ok (.iinc 4 1, 3) := by decide +kernel
theorem dX6_onlySleeperOf_48 : decode cX6_onlySleeperOf 48 = .ok (.goto (-36), 3) := by decide +kernel
theorem dX6_onlySleeperOf_51 : decode cX6_onlySleeperOf 51 = .ok (.bipush (-4), 2) := by decide +kernel
theorem dX6_onlySleeperOf_53 : decode cX6_onlySleeperOf 53 = .ok (.ireturn, 1) := by decide +kernel
theorem dX7_init_0 : decode cX7_init 0 = .ok (.aload_n 0, 1) := by decide +kernel
theorem dX7_init_1 : decode cX7_init 1 = .ok (.invokespecial 3, 3) := by decide +kernel
theorem dX7_init_4 : decode cX7_init 4 = .ok (.aload_n 0, 1) := by decide +kernel
theorem dX7_init_5 : decode cX7_init 5 = .ok (.sipush 200, 3) := by decide +kernel
theorem dX7_init_8 : decode cX7_init 8 = .ok (.newarray .char, 2) := by decide +kernel
theorem dX7_init_10 : decode cX7_init 10 = .ok (.putfield 9, 3) := by decide +kernel
theorem dX7_init_13 : decode cX7_init 13 = .ok (.aload_n 0, 1) := by decide +kernel
theorem dX7_init_14 : decode cX7_init 14 = .ok (.iconst 3, 1) := by decide +kernel
theorem dX7_init_15 : decode cX7_init 15 = .ok (.newarray .int, 2) := by decide +kernel
theorem dX7_init_17 : decode cX7_init 17 = .ok (.putfield 15, 3) := by decide +kernel
theorem dX7_init_20 : decode cX7_init 20 = .ok (.return_, 1) := by decide +kernel
theorem dX7_put_0 : decode cX7_put 0 = .ok (.aload_n 0, 1) := by decide +kernel
theorem dX7_put_1 : decode cX7_put 1 = .ok (.getfield 19, 3) := by decide +kernel
theorem dX7_put_4 : decode cX7_put 4 = .ok (.sipush 200, 3) := by decide +kernel
theorem dX7_put_7 : decode cX7_put 7 = .ok (.if_icmp .lt 5, 3) := by decide +kernel
theorem dX7_put_10 : decode cX7_put 10 = .ok (.iconst 0, 1) := by decide +kernel
theorem dX7_put_11 : decode cX7_put 11 = .ok (.ireturn, 1) := by decide +kernel
theorem dX7_put_12 : decode cX7_put 12 = .ok (.aload_n 0, 1) := by decide +kernel
theorem dX7_put_13 : decode cX7_put 13 = .ok (.getfield 9, 3) := by decide +kernel
theorem dX7_put_16 : decode cX7_put 16 = .ok (.aload_n 0, 1) := by decide +kernel
theorem dX7_put_17 : decode cX7_put 17 = .ok (.getfield 19, 3) := by decide +kernel
theorem dX7_put_20 : decode cX7_put 20 = .ok (.iload_n 1, 1) := by decide +kernel
theorem dX7_put_21 : decode cX7_put 21 = .ok (.castore, 1) := by decide +kernel
theorem dX7_put_22 : decode cX7_put 22 = .ok (.aload_n 0, 1) := by decide +kernel
theorem dX7_put_23 : decode cX7_put 23 = .ok (.dup, 1) := by decide +kernel
theorem dX7_put_24 : decode cX7_put 24 = .ok (.getfield 19, 3) := by decide +kernel
theorem dX7_put_27 : decode cX7_put 27 = .ok (.iconst 1, 1) := by decide +kernel
theorem dX7_put_28 : decode cX7_put 28 = .ok (.iadd, 1) := by decide +kernel
theorem dX7_put_29 : decode cX7_put 29 = .ok (.putfield 19, 3) := by decide +kernel
theorem dX7_put_32 : decode cX7_put 32 = .ok (.iconst 1, 1) := by decide +kernel
theorem dX7_put_33 : decode cX7_put 33 = .ok (.ireturn, 1) := by decide +kernel
theorem dX7_readInto_0 : decode cX7_readInto 0 = .ok (.aload_n 1, 1) := by decide +kernel
theorem dX7_readInto_1 : decode cX7_readInto 1 = .ok (.invokevirtual 23, 3) := by decide +kernel
theorem dX7_readInto_4 : decode cX7_readInto 4 = .ok (.iconst 0, 1) := by decide +kernel
theorem dX7_readInto_5 : decode cX7_readInto 5 = .ok (.istore_n 2, 1) := by decide +kernel
theorem dX7_readInto_6 : decode cX7_readInto 6 = .ok (.iconst 0, 1) := by decide +kernel
theorem dX7_readInto_7 : decode cX7_readInto 7 = .ok (.istore_n 3, 1) := by decide +kernel
theorem dX7_readInto_8 : decode cX7_readInto 8 = .ok (.iload_n 3, 1) := by decide +kernel
theorem dX7_readInto_9 : decode cX7_readInto 9 = .ok (.sipush 200, 3) := by decide +kernel
theorem dX7_readInto_12 : decode cX7_readInto 12 = .ok (.if_icmp .ge 71, 3) := by decide +kernel
theorem dX7_readInto_15 : decode cX7_readInto 15 = .ok (.iload_n 2, 1) := by decide +kernel
theorem dX7_readInto_16 : decode cX7_readInto 16 = .ok (.aload_n 0, 1) := by decide +kernel
theorem dX7_readInto_17 : decode cX7_readInto 17 = .ok (.getfield 19, 3) := by decide +kernel
theorem dX7_readInto_20 : decode cX7_readInto 20 = .ok (.if_icmp .ge 63, 3) := by decide +kernel
theorem dX7_readInto_23 : decode cX7_readInto 23 = .ok (.aload_n 0, 1) := by decide +kernel
theorem dX7_readInto_24 : decode cX7_readInto 24 = .ok (.iload_n 2, 1) := by decide +kernel
theorem dX7_readInto_25 : decode cX7_readInto 25 = .ok (.iconst 1, 1) := by decide +kernel
theorem dX7_readInto_26 : decode cX7_readInto 26 = .ok (.iadd, 1) := by decide +kernel
theorem dX7_readInto_27 : decode cX7_readInto 27 = .ok (.invokevirtual 28, 3) := by decide +kernel
theorem dX7_readInto_30 : decode cX7_readInto 30 = .ok (.istore 4, 2) := by decide +kernel
theorem dX7_readInto_32 : decode cX7_readInto 32 = .ok (.iload 4, 2) := by decide +kernel
theorem dX7_readInto_34 : decode cX7_readInto 34 = .ok (.iconst (-1), 1) := by decide +kernel
theorem dX7_readInto_35 : decode cX7_readInto 35 = .ok (.if_icmp .eq 37, 3) := by decide +kernel
theorem dX7_readInto_38 : decode cX7_readInto 38 = .ok (.aload_n 1, 1) := by decide +kernel
theorem dX7_readInto_39 : decode cX7_readInto 39 = .ok (.aload_n 0, 1) := by decide +kernel
theorem dX7_readInto_40 : decode cX7_readInto 40 = .ok (.iload_n 2, 1) := by decide +kernel
theorem dX7_readInto_41 : decode cX7_readInto 41 = .ok (.invokevirtual 32, 3) := by decide +kernel
theorem dX7_readInto_44 : decode cX7_readInto 44 = .ok (.aload_n 0, 1) := by decide +kernel
theorem dX7_readInto_45 : decode cX7_readInto 45 = .ok (.getfield 35, 3) := by decide +kernel
theorem dX7_readInto_48 : decode cX7_readInto 48 = .ok (.aload_n 0, 1) := by decide +kernel
theorem dX7_readInto_49 : decode cX7_readInto 49 = .ok (.getfield 15, 3) := by decide +kernel
theorem dX7_readInto_52 : decode cX7_readInto 52 = .ok (.iconst 0, 1) := by decide +kernel
theorem dX7_readInto_53 : decode cX7_readInto 53 = .ok (.iaload, 1) := by decide +kernel
theorem dX7_readInto_54 : decode cX7_readInto 54 = .ok (.aload_n 0, 1) := by decide +kernel
theorem dX7_readInto_55 : decode cX7_readInto 55 = .ok (.getfield 15, 3) := by decide +kernel
theorem dX7_readInto_58 : decode cX7_readInto 58 = .ok (.iconst 1, 1) := by decide +kernel
theorem dX7_readInto_59 : decode cX7_readInto 59 = .ok (.iaload, 1) := by decide +kernel
theorem dX7_readInto_60 : decode cX7_readInto 60 = .ok (.aload_n 0, 1) := by decide +kernel
theorem dX7_readInto_61 : decode cX7_readInto 61 = .ok (.getfield 15, 3) := by decide +kernel
theorem dX7_readInto_64 : decode cX7_readInto 64 = .ok (.iconst 2, 1) := by decide +kernel
theorem dX7_readInto_65 : decode cX7_readInto 65 = .ok (.iaload, 1) := by decide +kernel
theorem dX7_readInto_66 : decode cX7_readInto 66 = .ok (.invokevirtual 38, 3) := by decide +kernel
theorem dX7_readInto_69 : decode cX7_readInto 69 = .ok (.ifCond .ne 5, 3) := by decide +kernel
theorem dX7_readInto_72 : decode cX7_readInto 72 = .ok (.iload_n 2, 1) := by decide +kernel
theorem dX7_readInto_73 : decode cX7_readInto 73 = .ok (.ireturn, 1) := by decide +kernel
theorem dX7_readInto_74 : decode cX7_readInto 74 = .ok (.iload 4, 2) := by decide +kernel
theorem dX7_readInto_76 : decode cX7_readInto 76 = .ok (.istore_n 2, 1) := by decide +kernel
theorem dX7_readInto_77 : decode cX7_readInto 77 = .ok (.iinc 3 1, 3) := by decide +kernel
theorem dX7_readInto_80 : decode cX7_readInto 80 = .ok (.goto (-72), 3) := by decide +kernel
theorem dX7_readInto_83 : decode cX7_readInto 83 = .ok (.bipush (-4), 2) := by decide +kernel
theorem dX7_readInto_85 : decode cX7_readInto 85 = .ok (.ireturn, 1) := by decide +kernel
theorem dX7_readNumbers_0 : decode cX7_readNumbers 0 = .ok (.iload_n 1, 1) := by decide +kernel
theorem dX7_readNumbers_1 : decode cX7_readNumbers 1 = .ok (.istore_n 2, 1) := by decide +kernel
theorem dX7_readNumbers_2 : decode cX7_readNumbers 2 = .ok (.iconst 0, 1) := by decide +kernel
theorem dX7_readNumbers_3 : decode cX7_readNumbers 3 = .ok (.istore_n 3, 1) := by decide +kernel
theorem dX7_readNumbers_4 : decode cX7_readNumbers 4 = .ok (.iload_n 3, 1) := by decide +kernel
theorem dX7_readNumbers_5 : decode cX7_readNumbers 5 = .ok (.iconst 3, 1) := by decide +kernel
theorem dX7_readNumbers_6 : decode cX7_readNumbers 6 = .ok (.if_icmp .ge 107, 3) := by decide +kernel
theorem dX7_readNumbers_9 : decode cX7_readNumbers 9 = .ok (.aload_n 0, 1) := by decide +kernel
theorem dX7_readNumbers_10 : decode cX7_readNumbers 10 = .ok (.iload_n 2, 1) := by decide +kernel
theorem dX7_readNumbers_11 : decode cX7_readNumbers 11 = .ok (.invokevirtual 42, 3) := by decide +kernel
theorem dX7_readNumbers_14 : decode cX7_readNumbers 14 = .ok (.ifCond .ne 5, 3) := by decide +kernel
theorem dX7_readNumbers_17 : decode cX7_readNumbers 17 = .ok (.iconst (-1), 1) := by decide +kernel
theorem dX7_readNumbers_18 : decode cX7_readNumbers 18 = .ok (.ireturn, 1) := by decide +kernel
theorem dX7_readNumbers_19 : decode cX7_readNumbers 19 = .ok (.aload_n 0, 1) := by decide +kernel
theorem dX7_readNumbers_20 : decode cX7_readNumbers 20 = .ok (.getfield 15, 3) := by decide +kernel
theorem dX7_readNumbers_23 : decode cX7_readNumbers 23 = .ok (.iload_n 3, 1) := by decide +kernel
theorem dX7_readNumbers_24 : decode cX7_readNumbers 24 = .ok (.aload_n 0, 1) := by decide +kernel
theorem dX7_readNumbers_25 : decode cX7_readNumbers 25 = .ok (.iload_n 2, 1) := by decide +kernel
theorem dX7_readNumbers_26 : decode cX7_readNumbers 26 = .ok (.invokevirtual 32, 3) := by decide +kernel
theorem dX7_readNumbers_29 : decode cX7_readNumbers 29 = .ok (.bipush 48, 2) := by decide +kernel
theorem dX7_readNumbers_31 : decode cX7_readNumbers 31 = .ok (.isub, 1) := by decide +kernel
theorem dX7_readNumbers_32 : decode cX7_readNumbers 32 = .ok (.iastore, 1) := by decide +kernel
theorem dX7_readNumbers_33 : decode cX7_readNumbers 33 = .ok (.iinc 2 1, 3) := by decide +kernel
theorem dX7_readNumbers_36 : decode cX7_readNumbers 36 = .ok (.aload_n 0, 1) := by decide +kernel
theorem dX7_readNumbers_37 : decode cX7_readNumbers 37 = .ok (.iload_n 2, 1) := by decide +kernel
theorem dX7_readNumbers_38 : decode cX7_readNumbers 38 = .ok (.invokevirtual 42, 3) := by decide +kernel
theorem dX7_readNumbers_41 : decode cX7_readNumbers 41 = .ok (.ifCond .eq 30, 3) := by decide +kernel
theorem dX7_readNumbers_44 : decode cX7_readNumbers 44 = .ok (.aload_n 0, 1) := by decide +kernel
theorem dX7_readNumbers_45 : decode cX7_readNumbers 45 = .ok (.getfield 15, 3) := by decide +kernel
theorem dX7_readNumbers_48 : decode cX7_readNumbers 48 = .ok (.iload_n 3, 1) := by decide +kernel
theorem dX7_readNumbers_49 : decode cX7_readNumbers 49 = .ok (.bipush 10, 2) := by decide +kernel
theorem dX7_readNumbers_51 : decode cX7_readNumbers 51 = .ok (.aload_n 0, 1) := by decide +kernel
theorem dX7_readNumbers_52 : decode cX7_readNumbers 52 = .ok (.getfield 15, 3) := by decide +kernel
theorem dX7_readNumbers_55 : decode cX7_readNumbers 55 = .ok (.iload_n 3, 1) := by decide +kernel
theorem dX7_readNumbers_56 : decode cX7_readNumbers 56 = .ok (.iaload, 1) := by decide +kernel
theorem dX7_readNumbers_57 : decode cX7_readNumbers 57 = .ok (.imul, 1) := by decide +kernel
theorem dX7_readNumbers_58 : decode cX7_readNumbers 58 = .ok (.aload_n 0, 1) := by decide +kernel
theorem dX7_readNumbers_59 : decode cX7_readNumbers 59 = .ok (.iload_n 2, 1) := by decide +kernel
theorem dX7_readNumbers_60 : decode cX7_readNumbers 60 = .ok (.invokevirtual 32, 3) := by decide +kernel
theorem dX7_readNumbers_63 : decode cX7_readNumbers 63 = .ok (.iadd, 1) := by decide +kernel
theorem dX7_readNumbers_64 : decode cX7_readNumbers 64 = .ok (.bipush 48, 2) := by decide +kernel
theorem dX7_readNumbers_66 : decode cX7_readNumbers 66 = .ok (.isub, 1) := by decide +kernel
theorem dX7_readNumbers_67 : decode cX7_readNumbers 67 = .ok (.iastore, 1) := by decide +kernel
theorem dX7_readNumbers_68 : decode cX7_readNumbers 68 = .ok (.iinc 2 1, 3) := by decide +kernel
theorem dX7_readNumbers_71 : decode cX7_readNumbers 71 = .ok (.aload_n 0, 1) := by decide +kernel
theorem dX7_readNumbers_72 : decode cX7_readNumbers 72 = .ok (.iload_n 3, 1) := by decide +kernel
theorem dX7_readNumbers_73 : decode cX7_readNumbers 73 = .ok (.iconst 1, 1) := by decide +kernel
theorem dX7_readNumbers_74 : decode cX7_readNumbers 74 = .ok (.iadd, 1) := by decide +kernel
theorem dX7_readNumbers_75 : decode cX7_readNumbers 75 = .ok (.putfield 35, 3) := by decide +kernel
theorem dX7_readNumbers_78 : decode cX7_readNumbers 78 = .ok (.aload_n 0, 1) := by decide +kernel
theorem dX7_readNumbers_79 : decode cX7_readNumbers 79 = .ok (.iload_n 2, 1) := by decide +kernel
theorem dX7_readNumbers_80 : decode cX7_readNumbers 80 = .ok (.invokevirtual 32, 3) := by decide +kernel
theorem dX7_readNumbers_83 : decode cX7_readNumbers 83 = .ok (.bipush 59, 2) := by decide +kernel
theorem dX7_readNumbers_85 : decode cX7_readNumbers 85 = .ok (.if_icmp .ne 7, 3) := by decide +kernel
theorem dX7_readNumbers_88 : decode cX7_readNumbers 88 = .ok (.iload_n 2, 1) := by decide +kernel
theorem dX7_readNumbers_89 : decode cX7_readNumbers 89 = .ok (.iconst 1, 1) := by decide +kernel
theorem dX7_readNumbers_90 : decode cX7_readNumbers 90 = .ok (.iadd, 1) := by decide +kernel
theorem dX7_readNumbers_91 : decode cX7_readNumbers 91 = .ok (.ireturn, 1) := by decide +kernel
theorem dX7_readNumbers_92 : decode cX7_readNumbers 92 = .ok (.aload_n 0, 1) := by decide +kernel
theorem dX7_readNumbers_93 : decode cX7_readNumbers 93 = .ok (.iload_n 2, 1) := by decide +kernel
theorem dX7_readNumbers_94 : decode cX7_readNumbers 94 = .ok (.invokevirtual 32, 3) := by decide +kernel
theorem dX7_readNumbers_97 : decode cX7_readNumbers 97 = .ok (.bipush 44, 2) := by decide +kernel
theorem dX7_readNumbers_99 : decode cX7_readNumbers 99 = .ok (.if_icmp .eq 5, 3) := by decide +kernel
theorem dX7_readNumbers_102 : decode cX7_readNumbers 102 = .ok (.iconst (-1), 1) := by decide +kernel
theorem dX7_readNumbers_103 : decode cX7_readNumbers 103 = .ok (.ireturn, 1) := by decide +kernel
theorem dX7_readNumbers_104 : decode cX7_readNumbers 104 = .ok (.iinc 2 1, 3) := by decide +kernel
theorem dX7_readNumbers_107 : decode cX7_readNumbers 107 = .ok (.iinc 3 1, 3) := by decide +kernel
theorem dX7_readNumbers_110 : decode cX7_readNumbers 110 = .ok (.goto (-106), 3) := by decide +kernel
theorem dX7_readNumbers_113 : decode cX7_readNumbers 113 = .ok (.iconst (-1), 1) := by decide +kernel
theorem dX7_readNumbers_114 : decode cX7_readNumbers 114 = .ok (.ireturn, 1) := by decide +kernel
theorem dX7_isFigure_0 : decode cX7_isFigure 0 = .ok (.aload_n 0, 1) := by decide +kernel
theorem dX7_isFigure_1 : decode cX7_isFigure 1 = .ok (.iload_n 1, 1) := by decide +kernel
theorem dX7_isFigure_2 : decode cX7_isFigure 2 = .ok (.invokevirtual 32, 3) := by decide +kernel
theorem dX7_isFigure_5 : decode cX7_isFigure 5 = .ok (.bipush 48, 2) := by decide +kernel
theorem dX7_isFigure_7 : decode cX7_isFigure 7 = .ok (.bipush 57, 2) := by decide +kernel
theorem dX7_isFigure_9 : decode cX7_isFigure 9 = .ok (.invokestatic 46, 3) := by decide +kernel
theorem dX7_isFigure_12 : decode cX7_isFigure 12 = .ok (.ireturn, 1) := by decide +kernel
theorem dX7_letterAt_0 : decode cX7_letterAt 0 = .ok (.iload_n 1, 1) := by decide +kernel
theorem dX7_letterAt_1 : decode cX7_letterAt 1 = .ok (.ifCond .lt 29, 3) := by decide +kernel
theorem dX7_letterAt_4 : decode cX7_letterAt 4 = .ok (.iload_n 1, 1) := by decide +kernel
theorem dX7_letterAt_5 : decode cX7_letterAt 5 = .ok (.aload_n 0, 1) := by decide +kernel
theorem dX7_letterAt_6 : decode cX7_letterAt 6 = .ok (.getfield 19, 3) := by decide +kernel
theorem dX7_letterAt_9 : decode cX7_letterAt 9 = .ok (.if_icmp .ge 21, 3) := by decide +kernel
theorem dX7_letterAt_12 : decode cX7_letterAt 12 = .ok (.iload_n 1, 1) := by decide +kernel
theorem dX7_letterAt_13 : decode cX7_letterAt 13 = .ok (.aload_n 0, 1) := by decide +kernel
theorem dX7_letterAt_14 : decode cX7_letterAt 14 = .ok (.getfield 9, 3) := by decide +kernel
theorem dX7_letterAt_17 : decode cX7_letterAt 17 = .ok (.arraylength, 1) := by decide +kernel
theorem dX7_letterAt_18 : decode cX7_letterAt 18 = .ok (.if_icmp .ge 12, 3) := by decide +kernel
theorem dX7_letterAt_21 : decode cX7_letterAt 21 = .ok (.aload_n 0, 1) := by decide +kernel
theorem dX7_letterAt_22 : decode cX7_letterAt 22 = .ok (.getfield 9, 3) := by decide +kernel
theorem dX7_letterAt_25 : decode cX7_letterAt 25 = .ok (.iload_n 1, 1) := by decide +kernel
theorem dX7_letterAt_26 : decode cX7_letterAt 26 = .ok (.caload, 1) := by decide +kernel
theorem dX7_letterAt_27 : decode cX7_letterAt 27 = .ok (.goto 4, 3) := by decide +kernel
theorem dX7_letterAt_30 : decode cX7_letterAt 30 = .ok (.iconst 0, 1) := by decide +kernel
theorem dX7_letterAt_31 : decode cX7_letterAt 31 = .ok (.ireturn, 1) := by decide +kernel
theorem dX8_init_0 : decode cX8_init 0 = .ok (.aload_n 0, 1) := by decide +kernel
theorem dX8_init_1 : decode cX8_init 1 = .ok (.invokespecial 3, 3) := by decide +kernel
theorem dX8_init_4 : decode cX8_init 4 = .ok (.aload_n 0, 1) := by decide +kernel
theorem dX8_init_5 : decode cX8_init 5 = .ok (.iconst 2, 1) := by decide +kernel
theorem dX8_init_6 : decode cX8_init 6 = .ok (.bipush 7, 2) := by decide +kernel
theorem dX8_init_8 : decode cX8_init 8 = .ok (.multianewarray 9 2, 4) := by decide +kernel
theorem dX8_init_12 : decode cX8_init 12 = .ok (.putfield 11, 3) := by decide +kernel
theorem dX8_init_15 : decode cX8_init 15 = .ok (.aload_n 0, 1) := by decide +kernel
theorem dX8_init_16 : decode cX8_init 16 = .ok (.iconst 2, 1) := by decide +kernel
theorem dX8_init_17 : decode cX8_init 17 = .ok (.bipush 7, 2) := by decide +kernel
theorem dX8_init_19 : decode cX8_init 19 = .ok (.multianewarray 9 2, 4) := by decide +kernel
theorem dX8_init_23 : decode cX8_init 23 = .ok (.putfield 16, 3) := by decide +kernel
theorem dX8_init_26 : decode cX8_init 26 = .ok (.aload_n 0, 1) := by decide +kernel
theorem dX8_init_27 : decode cX8_init 27 = .ok (.iconst 2, 1) := by decide +kernel
theorem dX8_init_28 : decode cX8_init 28 = .ok (.bipush 7, 2) := by decide +kernel
theorem dX8_init_30 : decode cX8_init 30 = .ok (.multianewarray 9 2, 4) := by decide +kernel
theorem dX8_init_34 : decode cX8_init 34 = .ok (.putfield 19, 3) := by decide +kernel
theorem dX8_init_37 : decode cX8_init 37 = .ok (.return_, 1) := by decide +kernel
theorem dX8_put_0 : decode cX8_put 0 = .ok (.aload_n 0, 1) := by decide +kernel
theorem dX8_put_1 : decode cX8_put 1 = .ok (.getfield 22, 3) := by decide +kernel
theorem dX8_put_4 : decode cX8_put 4 = .ok (.iconst 2, 1) := by decide +kernel
theorem dX8_put_5 : decode cX8_put 5 = .ok (.if_icmp .lt 5, 3) := by decide +kernel
theorem dX8_put_8 : decode cX8_put 8 = .ok (.iconst 0, 1) := by decide +kernel
theorem dX8_put_9 : decode cX8_put 9 = .ok (.ireturn, 1) := by decide +kernel
theorem dX8_put_10 : decode cX8_put 10 = .ok (.aload_n 1, 1) := by decide +kernel
theorem dX8_put_11 : decode cX8_put 11 = .ok (.getfield 26, 3) := by decide +kernel
theorem dX8_put_14 : decode cX8_put 14 = .ok (.iconst 0, 1) := by decide +kernel
theorem dX8_put_15 : decode cX8_put 15 = .ok (.aload_n 0, 1) := by decide +kernel
theorem dX8_put_16 : decode cX8_put 16 = .ok (.getfield 11, 3) := by decide +kernel
theorem dX8_put_19 : decode cX8_put 19 = .ok (.aload_n 0, 1) := by decide +kernel
theorem dX8_put_20 : decode cX8_put 20 = .ok (.getfield 22, 3) := by decide +kernel
theorem dX8_put_23 : decode cX8_put 23 = .ok (.aaload, 1) := by decide +kernel
theorem dX8_put_24 : decode cX8_put 24 = .ok (.iconst 0, 1) := by decide +kernel
theorem dX8_put_25 : decode cX8_put 25 = .ok (.bipush 7, 2) := by decide +kernel
theorem dX8_put_27 : decode cX8_put 27 = .ok (.invokestatic 32, 3) := by decide +kernel
theorem dX8_put_30 : decode cX8_put 30 = .ok (.aload_n 1, 1) := by decide +kernel
theorem dX8_put_31 : decode cX8_put 31 = .ok (.getfield 38, 3) := by decide +kernel
theorem dX8_put_34 : decode cX8_put 34 = .ok (.iconst 0, 1) := by decide +kernel
theorem dX8_put_35 : decode cX8_put 35 = .ok (.aload_n 0, 1) := by decide +kernel
theorem dX8_put_36 : decode cX8_put 36 = .ok (.getfield 16, 3) := by decide +kernel
theorem dX8_put_39 : decode cX8_put 39 = .ok (.aload_n 0, 1) := by decide +kernel
theorem dX8_put_40 : decode cX8_put 40 = .ok (.getfield 22, 3) := by decide +kernel
theorem dX8_put_43 : decode cX8_put 43 = .ok (.aaload, 1) := by decide +kernel
theorem dX8_put_44 : decode cX8_put 44 = .ok (.iconst 0, 1) := by decide +kernel
theorem dX8_put_45 : decode cX8_put 45 = .ok (.bipush 7, 2) := by decide +kernel
theorem dX8_put_47 : decode cX8_put 47 = .ok (.invokestatic 32, 3) := by decide +kernel
theorem dX8_put_50 : decode cX8_put 50 = .ok (.aload_n 1, 1) := by decide +kernel
theorem dX8_put_51 : decode cX8_put 51 = .ok (.getfield 40, 3) := by decide +kernel
theorem dX8_put_54 : decode cX8_put 54 = .ok (.iconst 0, 1) := by decide +kernel
theorem dX8_put_55 : decode cX8_put 55 = .ok (.aload_n 0, 1) := by decide +kernel
theorem dX8_put_56 : decode cX8_put 56 = .ok (.getfield 19, 3) := by decide +kernel
theorem dX8_put_59 : decode cX8_put 59 = .ok (.aload_n 0, 1) := by decide +kernel
theorem dX8_put_60 : decode cX8_put 60 = .ok (.getfield 22, 3) := by decide +kernel
theorem dX8_put_63 : decode cX8_put 63 = .ok (.aaload, 1) := by decide +kernel
theorem dX8_put_64 : decode cX8_put 64 = .ok (.iconst 0, 1) := by decide +kernel
theorem dX8_put_65 : decode cX8_put 65 = .ok (.bipush 7, 2) := by decide +kernel
theorem dX8_put_67 : decode cX8_put 67 = .ok (.invokestatic 32, 3) := by decide +kernel
theorem dX8_put_70 : decode cX8_put 70 = .ok (.aload_n 0, 1) := by decide +kernel
theorem dX8_put_71 : decode cX8_put 71 = .ok (.dup, 1) := by decide +kernel
theorem dX8_put_72 : decode cX8_put 72 = .ok (.getfield 22, 3) := by decide +kernel
theorem dX8_put_75 : decode cX8_put 75 = .ok (.iconst 1, 1) := by decide +kernel
theorem dX8_put_76 : decode cX8_put 76 = .ok (.iadd, 1) := by decide +kernel
theorem dX8_put_77 : decode cX8_put 77 = .ok (.putfield 22, 3) := by decide +kernel
theorem dX8_put_80 : decode cX8_put 80 = .ok (.iconst 1, 1) := by decide +kernel
theorem dX8_put_81 : decode cX8_put 81 = .ok (.ireturn, 1) := by decide +kernel
theorem dX8_takeInto_0 : decode cX8_takeInto 0 = .ok (.aload_n 0, 1) := by decide +kernel
theorem dX8_takeInto_1 : decode cX8_takeInto 1 = .ok (.getfield 22, 3) := by decide +kernel
theorem dX8_takeInto_4 : decode cX8_takeInto 4 = .ok (.ifCond .gt 4, 3) := by decide +kernel
theorem dX8_takeInto_7 : decode cX8_takeInto 7 = .ok (.return_, 1) := by decide +kernel
theorem dX8_takeInto_8 : decode cX8_takeInto 8 = .ok (.aload_n 0, 1) := by decide +kernel
theorem dX8_takeInto_9 : decode cX8_takeInto 9 = .ok (.dup, 1) := by decide +kernel
theorem dX8_takeInto_10 : decode cX8_takeInto 10 = .ok (.getfield 22, 3) := by decide +kernel
theorem dX8_takeInto_13 : decode cX8_takeInto 13 = .ok (.iconst 1, 1) := by decide +kernel
theorem dX8_takeInto_14 : decode cX8_takeInto 14 = .ok (.isub, 1) := by decide +kernel
theorem dX8_takeInto_15 : decode cX8_takeInto 15 = .ok (.putfield 22, 3) := by decide +kernel
theorem dX8_takeInto_18 : decode cX8_takeInto 18 = .ok (.aload_n 0, 1) := by decide +kernel
theorem dX8_takeInto_19 : decode cX8_takeInto 19 = .ok (.getfield 11, 3) := by decide +kernel
theorem dX8_takeInto_22 : decode cX8_takeInto 22 = .ok (.aload_n 0, 1) := by decide +kernel
theorem dX8_takeInto_23 : decode cX8_takeInto 23 = .ok (.getfield 22, 3) := by decide +kernel
theorem dX8_takeInto_26 : decode cX8_takeInto 26 = .ok (.aaload, 1) := by decide +kernel
theorem dX8_takeInto_27 : decode cX8_takeInto 27 = .ok (.iconst 0, 1) := by decide +kernel
theorem dX8_takeInto_28 : decode cX8_takeInto 28 = .ok (.aload_n 1, 1) := by decide +kernel
theorem dX8_takeInto_29 : decode cX8_takeInto 29 = .ok (.getfield 26, 3) := by decide +kernel
theorem dX8_takeInto_32 : decode cX8_takeInto 32 = .ok (.iconst 0, 1) := by decide +kernel
theorem dX8_takeInto_33 : decode cX8_takeInto 33 = .ok (.bipush 7, 2) := by decide +kernel
theorem dX8_takeInto_35 : decode cX8_takeInto 35 = .ok (.invokestatic 32, 3) := by decide +kernel
theorem dX8_takeInto_38 : decode cX8_takeInto 38 = .ok (.aload_n 0, 1) := by decide +kernel
theorem dX8_takeInto_39 : decode cX8_takeInto 39 = .ok (.getfield 16, 3) := by decide +kernel
theorem dX8_takeInto_42 : decode cX8_takeInto 42 = .ok (.aload_n 0, 1) := by decide +kernel
theorem dX8_takeInto_43 : decode cX8_takeInto 43 = .ok (.getfield 22, 3) := by decide +kernel
theorem dX8_takeInto_46 : decode cX8_takeInto 46 = .ok (.aaload, 1) := by decide +kernel
theorem dX8_takeInto_47 : decode cX8_takeInto 47 = .ok (.iconst 0, 1) := by decide +kernel
theorem dX8_takeInto_48 : decode cX8_takeInto 48 = .ok (.aload_n 1, 1) := by decide +kernel
theorem dX8_takeInto_49 : decode cX8_takeInto 49 = .ok (.getfield 38, 3) := by decide +kernel
theorem dX8_takeInto_52 : decode cX8_takeInto 52 = .ok (.iconst 0, 1) := by decide +kernel
theorem dX8_takeInto_53 : decode cX8_takeInto 53 = .ok (.bipush 7, 2) := by decide +kernel
theorem dX8_takeInto_55 : decode cX8_takeInto 55 = .ok (.invokestatic 32, 3) := by decide +kernel
theorem dX8_takeInto_58 : decode cX8_takeInto 58 = .ok (.aload_n 0, 1) := by decide +kernel
theorem dX8_takeInto_59 : decode cX8_takeInto 59 = .ok (.getfield 19, 3) := by decide +kernel
theorem dX8_takeInto_62 : decode cX8_takeInto 62 = .ok (.aload_n 0, 1) := by decide +kernel
theorem dX8_takeInto_63 : decode cX8_takeInto 63 = .ok (.getfield 22, 3) := by decide +kernel
theorem dX8_takeInto_66 : decode cX8_takeInto 66 = .ok (.aaload, 1) := by decide +kernel
theorem dX8_takeInto_67 : decode cX8_takeInto 67 = .ok (.iconst 0, 1) := by decide +kernel
theorem dX8_takeInto_68 : decode cX8_takeInto 68 = .ok (.aload_n 1, 1) := by decide +kernel
theorem dX8_takeInto_69 : decode cX8_takeInto 69 = .ok (.getfield 40, 3) := by decide +kernel
theorem dX8_takeInto_72 : decode cX8_takeInto 72 = .ok (.iconst 0, 1) := by decide +kernel
theorem dX8_takeInto_73 : decode cX8_takeInto 73 = .ok (.bipush 7, 2) := by decide +kernel
theorem dX8_takeInto_75 : decode cX8_takeInto 75 = .ok (.invokestatic 32, 3) := by decide +kernel
theorem dX8_takeInto_78 : decode cX8_takeInto 78 = .ok (.return_, 1) := by decide +kernel
theorem dX9_init_0 : decode cX9_init 0 = .ok (.aload_n 0, 1) := by decide +kernel
theorem dX9_init_1 : decode cX9_init 1 = .ok (.invokespecial 1, 3) := by decide +kernel
theorem dX9_init_4 : decode cX9_init 4 = .ok (.aload_n 0, 1) := by decide +kernel
theorem dX9_init_5 : decode cX9_init 5 = .ok (.new 7, 3) := by decide +kernel
theorem dX9_init_8 : decode cX9_init 8 = .ok (.dup, 1) := by decide +kernel
theorem dX9_init_9 : decode cX9_init 9 = .ok (.invokespecial 9, 3) := by decide +kernel
theorem dX9_init_12 : decode cX9_init 12 = .ok (.putfield 10, 3) := by decide +kernel
theorem dX9_init_15 : decode cX9_init 15 = .ok (.aload_n 0, 1) := by decide +kernel
theorem dX9_init_16 : decode cX9_init 16 = .ok (.new 16, 3) := by decide +kernel
theorem dX9_init_19 : decode cX9_init 19 = .ok (.dup, 1) := by decide +kernel
theorem dX9_init_20 : decode cX9_init 20 = .ok (.invokespecial 18, 3) := by decide +kernel
theorem dX9_init_23 : decode cX9_init 23 = .ok (.putfield 19, 3) := by decide +kernel
theorem dX9_init_26 : decode cX9_init 26 = .ok (.aload_n 0, 1) := by decide +kernel
theorem dX9_init_27 : decode cX9_init 27 = .ok (.new 23, 3) := by decide +kernel
theorem dX9_init_30 : decode cX9_init 30 = .ok (.dup, 1) := by decide +kernel
theorem dX9_init_31 : decode cX9_init 31 = .ok (.invokespecial 25, 3) := by decide +kernel
theorem dX9_init_34 : decode cX9_init 34 = .ok (.putfield 26, 3) := by decide +kernel
theorem dX9_init_37 : decode cX9_init 37 = .ok (.aload_n 0, 1) := by decide +kernel
theorem dX9_init_38 : decode cX9_init 38 = .ok (.new 30, 3) := by decide +kernel
theorem dX9_init_41 : decode cX9_init 41 = .ok (.dup, 1) := by decide +kernel
theorem dX9_init_42 : decode cX9_init 42 = .ok (.invokespecial 32, 3) := by decide +kernel
theorem dX9_init_45 : decode cX9_init 45 = .ok (.putfield 33, 3) := by decide +kernel
theorem dX9_init_48 : decode cX9_init 48 = .ok (.aload_n 0, 1) := by decide +kernel
theorem dX9_init_49 : decode cX9_init 49 = .ok (.new 37, 3) := by decide +kernel
theorem dX9_init_52 : decode cX9_init 52 = .ok (.dup, 1) := by decide +kernel
theorem dX9_init_53 : decode cX9_init 53 = .ok (.invokespecial 39, 3) := by decide +kernel
theorem dX9_init_56 : decode cX9_init 56 = .ok (.putfield 40, 3) := by decide +kernel
theorem dX9_init_59 : decode cX9_init 59 = .ok (.aload_n 0, 1) := by decide +kernel
theorem dX9_init_60 : decode cX9_init 60 = .ok (.new 44, 3) := by decide +kernel
theorem dX9_init_63 : decode cX9_init 63 = .ok (.dup, 1) := by decide +kernel
theorem dX9_init_64 : decode cX9_init 64 = .ok (.invokespecial 46, 3) := by decide +kernel
theorem dX9_init_67 : decode cX9_init 67 = .ok (.putfield 47, 3) := by decide +kernel
theorem dX9_init_70 : decode cX9_init 70 = .ok (.aload_n 0, 1) := by decide +kernel
theorem dX9_init_71 : decode cX9_init 71 = .ok (.bipush 7, 2) := by decide +kernel
theorem dX9_init_73 : decode cX9_init 73 = .ok (.newarray .int, 2) := by decide +kernel
theorem dX9_init_75 : decode cX9_init 75 = .ok (.putfield 51, 3) := by decide +kernel
theorem dX9_init_78 : decode cX9_init 78 = .ok (.aload_n 0, 1) := by decide +kernel
theorem dX9_init_79 : decode cX9_init 79 = .ok (.new 55, 3) := by decide +kernel
theorem dX9_init_82 : decode cX9_init 82 = .ok (.dup, 1) := by decide +kernel
theorem dX9_init_83 : decode cX9_init 83 = .ok (.invokespecial 57, 3) := by decide +kernel
theorem dX9_init_86 : decode cX9_init 86 = .ok (.putfield 58, 3) := by decide +kernel
theorem dX9_init_89 : decode cX9_init 89 = .ok (.aload_n 0, 1) := by decide +kernel
theorem dX9_init_90 : decode cX9_init 90 = .ok (.new 55, 3) := by decide +kernel
theorem dX9_init_93 : decode cX9_init 93 = .ok (.dup, 1) := by decide +kernel
theorem dX9_init_94 : decode cX9_init 94 = .ok (.invokespecial 57, 3) := by decide +kernel
theorem dX9_init_97 : decode cX9_init 97 = .ok (.putfield 62, 3) := by decide +kernel
theorem dX9_init_100 : decode cX9_init 100 = .ok (.iconst 0, 1) := by decide +kernel
theorem dX9_init_101 : decode cX9_init 101 = .ok (.istore_n 1, 1) := by decide +kernel
theorem dX9_init_102 : decode cX9_init 102 = .ok (.iload_n 1, 1) := by decide +kernel
theorem dX9_init_103 : decode cX9_init 103 = .ok (.ldc 65, 2) := by decide +kernel
theorem dX9_init_105 : decode cX9_init 105 = .ok (.invokevirtual 67, 3) := by decide +kernel
theorem dX9_init_108 : decode cX9_init 108 = .ok (.if_icmp .ge 23, 3) := by decide +kernel
theorem dX9_init_111 : decode cX9_init 111 = .ok (.aload_n 0, 1) := by decide +kernel
theorem dX9_init_112 : decode cX9_init 112 = .ok (.getfield 10, 3) := by decide +kernel
theorem dX9_init_115 : decode cX9_init 115 = .ok (.ldc 65, 2) := by decide +kernel
theorem dX9_init_117 : decode cX9_init 117 = .ok (.iload_n 1, 1) := by decide +kernel
theorem dX9_init_118 : decode cX9_init 118 = .ok (.invokevirtual 73, 3) := by decide +kernel
theorem dX9_init_121 : decode cX9_init 121 = .ok (.invokevirtual 77, 3) := by decide +kernel
theorem dX9_init_124 : decode cX9_init 124 = .ok (.pop, 1) := by decide +kernel
theorem dX9_init_125 : decode cX9_init 125 = .ok (.iinc 1 1, 3) := by decide +kernel
theorem dX9_init_128 : decode cX9_init 128 = .ok (.goto (-26), 3) := by decide +kernel
theorem dX9_init_131 : decode cX9_init 131 = .ok (.aload_n 0, 1) := by decide +kernel
theorem dX9_init_132 : decode cX9_init 132 = .ok (.getfield 10, 3) := by decide +kernel
theorem dX9_init_135 : decode cX9_init 135 = .ok (.aload_n 0, 1) := by decide +kernel
theorem dX9_init_136 : decode cX9_init 136 = .ok (.getfield 58, 3) := by decide +kernel
theorem dX9_init_139 : decode cX9_init 139 = .ok (.invokevirtual 81, 3) := by decide +kernel
theorem dX9_init_142 : decode cX9_init 142 = .ok (.pop, 1) := by decide +kernel
theorem dX9_init_143 : decode cX9_init 143 = .ok (.aload_n 0, 1) := by decide +kernel
theorem dX9_init_144 : decode cX9_init 144 = .ok (.getfield 10, 3) := by decide +kernel
theorem dX9_init_147 : decode cX9_init 147 = .ok (.iconst 0, 1) := by decide +kernel
theorem dX9_init_148 : decode cX9_init 148 = .ok (.putfield 85, 3) := by decide +kernel
theorem dX9_init_151 : decode cX9_init 151 = .ok (.return_, 1) := by decide +kernel
theorem dX9_write_0 : decode cX9_write 0 = .ok (.iload_n 1, 1) := by decide +kernel
theorem dX9_write_1 : decode cX9_write 1 = .ok (.bipush 32, 2) := by decide +kernel
theorem dX9_write_3 : decode cX9_write 3 = .ok (.bipush 126, 2) := by decide +kernel
theorem dX9_write_5 : decode cX9_write 5 = .ok (.invokestatic 89, 3) := by decide +kernel
theorem dX9_write_8 : decode cX9_write 8 = .ok (.ifCond .ne 5, 3) := by decide +kernel
theorem dX9_write_11 : decode cX9_write 11 = .ok (.iconst (-1), 1) := by decide +kernel
theorem dX9_write_12 : decode cX9_write 12 = .ok (.ireturn, 1) := by decide +kernel
theorem dX9_write_13 : decode cX9_write 13 = .ok (.aload_n 0, 1) := by decide +kernel
theorem dX9_write_14 : decode cX9_write 14 = .ok (.getfield 10, 3) := by decide +kernel
theorem dX9_write_17 : decode cX9_write 17 = .ok (.iload_n 1, 1) := by decide +kernel
theorem dX9_write_18 : decode cX9_write 18 = .ok (.i2c, 1) := by decide +kernel
theorem dX9_write_19 : decode cX9_write 19 = .ok (.invokevirtual 77, 3) := by decide +kernel
theorem dX9_write_22 : decode cX9_write 22 = .ok (.ifCond .eq 13, 3) := by decide +kernel
theorem dX9_write_25 : decode cX9_write 25 = .ok (.aload_n 0, 1) := by decide +kernel
theorem dX9_write_26 : decode cX9_write 26 = .ok (.getfield 10, 3) := by decide +kernel
theorem dX9_write_29 : decode cX9_write 29 = .ok (.getfield 85, 3) := by decide +kernel
theorem dX9_write_32 : decode cX9_write 32 = .ok (.goto 5, 3) := by decide +kernel
theorem dX9_write_35 : decode cX9_write 35 = .ok (.bipush (-3), 2) := by decide +kernel
theorem dX9_write_37 : decode cX9_write 37 = .ok (.ireturn, 1) := by decide +kernel
theorem dX9_wipe_0 : decode cX9_wipe 0 = .ok (.aload_n 0, 1) := by decide +kernel
theorem dX9_wipe_1 : decode cX9_wipe 1 = .ok (.getfield 10, 3) := by decide +kernel
theorem dX9_wipe_4 : decode cX9_wipe 4 = .ok (.getfield 85, 3) := by decide +kernel
theorem dX9_wipe_7 : decode cX9_wipe 7 = .ok (.istore_n 1, 1) := by decide +kernel
theorem dX9_wipe_8 : decode cX9_wipe 8 = .ok (.aload_n 0, 1) := by decide +kernel
theorem dX9_wipe_9 : decode cX9_wipe 9 = .ok (.getfield 10, 3) := by decide +kernel
theorem dX9_wipe_12 : decode cX9_wipe 12 = .ok (.iconst 0, 1) := by decide +kernel
theorem dX9_wipe_13 : decode cX9_wipe 13 = .ok (.putfield 85, 3) := by decide +kernel
theorem dX9_wipe_16 : decode cX9_wipe 16 = .ok (.iload_n 1, 1) := by decide +kernel
theorem dX9_wipe_17 : decode cX9_wipe 17 = .ok (.ireturn, 1) := by decide +kernel
theorem dX9_fault_0 : decode cX9_fault 0 = .ok (.aload_n 0, 1) := by decide +kernel
theorem dX9_fault_1 : decode cX9_fault 1 = .ok (.getfield 10, 3) := by decide +kernel
theorem dX9_fault_4 : decode cX9_fault 4 = .ok (.aload_n 0, 1) := by decide +kernel
theorem dX9_fault_5 : decode cX9_fault 5 = .ok (.getfield 62, 3) := by decide +kernel
theorem dX9_fault_8 : decode cX9_fault 8 = .ok (.invokevirtual 81, 3) := by decide +kernel
theorem dX9_fault_11 : decode cX9_fault 11 = .ok (.ireturn, 1) := by decide +kernel
theorem dX9_lay_0 : decode cX9_lay 0 = .ok (.aload_n 0, 1) := by decide +kernel
theorem dX9_lay_1 : decode cX9_lay 1 = .ok (.getfield 10, 3) := by decide +kernel
theorem dX9_lay_4 : decode cX9_lay 4 = .ok (.aload_n 0, 1) := by decide +kernel
theorem dX9_lay_5 : decode cX9_lay 5 = .ok (.getfield 62, 3) := by decide +kernel
theorem dX9_lay_8 : decode cX9_lay 8 = .ok (.invokevirtual 81, 3) := by decide +kernel
theorem dX9_lay_11 : decode cX9_lay 11 = .ok (.bipush (-4), 2) := by decide +kernel
theorem dX9_lay_13 : decode cX9_lay 13 = .ok (.if_icmp .ne 13, 3) := by decide +kernel
theorem dX9_lay_16 : decode cX9_lay 16 = .ok (.aload_n 0, 1) := by decide +kernel
theorem dX9_lay_17 : decode cX9_lay 17 = .ok (.getfield 62, 3) := by decide +kernel
theorem dX9_lay_20 : decode cX9_lay 20 = .ok (.invokevirtual 93, 3) := by decide +kernel
theorem dX9_lay_23 : decode cX9_lay 23 = .ok (.ifCond .ne 6, 3) := by decide +kernel
theorem dX9_lay_26 : decode cX9_lay 26 = .ok (.bipush (-2), 2) := by decide +kernel
theorem dX9_lay_28 : decode cX9_lay 28 = .ok (.ireturn, 1) := by decide +kernel
theorem dX9_lay_29 : decode cX9_lay 29 = .ok (.aload_n 0, 1) := by decide +kernel
theorem dX9_lay_30 : decode cX9_lay 30 = .ok (.getfield 58, 3) := by decide +kernel
theorem dX9_lay_33 : decode cX9_lay 33 = .ok (.astore_n 1, 1) := by decide +kernel
theorem dX9_lay_34 : decode cX9_lay 34 = .ok (.aload_n 0, 1) := by decide +kernel
theorem dX9_lay_35 : decode cX9_lay 35 = .ok (.aload_n 0, 1) := by decide +kernel
theorem dX9_lay_36 : decode cX9_lay 36 = .ok (.getfield 62, 3) := by decide +kernel
theorem dX9_lay_39 : decode cX9_lay 39 = .ok (.putfield 58, 3) := by decide +kernel
theorem dX9_lay_42 : decode cX9_lay 42 = .ok (.aload_n 0, 1) := by decide +kernel
theorem dX9_lay_43 : decode cX9_lay 43 = .ok (.aload_n 1, 1) := by decide +kernel
theorem dX9_lay_44 : decode cX9_lay 44 = .ok (.putfield 62, 3) := by decide +kernel
theorem dX9_lay_47 : decode cX9_lay 47 = .ok (.aload_n 0, 1) := by decide +kernel
theorem dX9_lay_48 : decode cX9_lay 48 = .ok (.getfield 26, 3) := by decide +kernel
theorem dX9_lay_51 : decode cX9_lay 51 = .ok (.iconst 0, 1) := by decide +kernel
theorem dX9_lay_52 : decode cX9_lay 52 = .ok (.putfield 97, 3) := by decide +kernel
theorem dX9_lay_55 : decode cX9_lay 55 = .ok (.aload_n 0, 1) := by decide +kernel
theorem dX9_lay_56 : decode cX9_lay 56 = .ok (.getfield 33, 3) := by decide +kernel
theorem dX9_lay_59 : decode cX9_lay 59 = .ok (.iconst 0, 1) := by decide +kernel
theorem dX9_lay_60 : decode cX9_lay 60 = .ok (.putfield 98, 3) := by decide +kernel
theorem dX9_lay_63 : decode cX9_lay 63 = .ok (.aload_n 0, 1) := by decide +kernel
theorem dX9_lay_64 : decode cX9_lay 64 = .ok (.getfield 40, 3) := by decide +kernel
theorem dX9_lay_67 : decode cX9_lay 67 = .ok (.iconst 0, 1) := by decide +kernel
theorem dX9_lay_68 : decode cX9_lay 68 = .ok (.putfield 99, 3) := by decide +kernel
theorem dX9_lay_71 : decode cX9_lay 71 = .ok (.aload_n 0, 1) := by decide +kernel
theorem dX9_lay_72 : decode cX9_lay 72 = .ok (.getfield 47, 3) := by decide +kernel
theorem dX9_lay_75 : decode cX9_lay 75 = .ok (.iconst 0, 1) := by decide +kernel
theorem dX9_lay_76 : decode cX9_lay 76 = .ok (.putfield 100, 3) := by decide +kernel
theorem dX9_lay_79 : decode cX9_lay 79 = .ok (.aload_n 0, 1) := by decide +kernel
theorem dX9_lay_80 : decode cX9_lay 80 = .ok (.getfield 58, 3) := by decide +kernel
theorem dX9_lay_83 : decode cX9_lay 83 = .ok (.getfield 104, 3) := by decide +kernel
theorem dX9_lay_86 : decode cX9_lay 86 = .ok (.getfield 108, 3) := by decide +kernel
theorem dX9_lay_89 : decode cX9_lay 89 = .ok (.ireturn, 1) := by decide +kernel
theorem dX9_bed_0 : decode cX9_bed 0 = .ok (.aload_n 0, 1) := by decide +kernel
theorem dX9_bed_1 : decode cX9_bed 1 = .ok (.getfield 58, 3) := by decide +kernel
theorem dX9_bed_4 : decode cX9_bed 4 = .ok (.getfield 111, 3) := by decide +kernel
theorem dX9_bed_7 : decode cX9_bed 7 = .ok (.iload_n 1, 1) := by decide +kernel
theorem dX9_bed_8 : decode cX9_bed 8 = .ok (.invokevirtual 115, 3) := by decide +kernel
theorem dX9_bed_11 : decode cX9_bed 11 = .ok (.ifCond .eq 25, 3) := by decide +kernel
theorem dX9_bed_14 : decode cX9_bed 14 = .ok (.iload_n 2, 1) := by decide +kernel
theorem dX9_bed_15 : decode cX9_bed 15 = .ok (.invokestatic 121, 3) := by decide +kernel
theorem dX9_bed_18 : decode cX9_bed 18 = .ok (.ifCond .eq 18, 3) := by decide +kernel
theorem dX9_bed_21 : decode cX9_bed 21 = .ok (.aload_n 0, 1) := by decide +kernel
theorem dX9_bed_22 : decode cX9_bed 22 = .ok (.getfield 58, 3) := by decide +kernel
theorem dX9_bed_25 : decode cX9_bed 25 = .ok (.getfield 111, 3) := by decide +kernel
theorem dX9_bed_28 : decode cX9_bed 28 = .ok (.iload_n 1, 1) := by decide +kernel
theorem dX9_bed_29 : decode cX9_bed 29 = .ok (.iload_n 2, 1) := by decide +kernel
theorem dX9_bed_30 : decode cX9_bed 30 = .ok (.invokevirtual 124, 3) := by decide +kernel
theorem dX9_bed_33 : decode cX9_bed 33 = .ok (.goto 4, 3) := by decide +kernel
theorem dX9_bed_36 : decode cX9_bed 36 = .ok (.iconst (-1), 1) := by decide +kernel
theorem dX9_bed_37 : decode cX9_bed 37 = .ok (.ireturn, 1) := by decide +kernel
theorem dX9_guest_0 : decode cX9_guest 0 = .ok (.aload_n 0, 1) := by decide +kernel
theorem dX9_guest_1 : decode cX9_guest 1 = .ok (.getfield 58, 3) := by decide +kernel
theorem dX9_guest_4 : decode cX9_guest 4 = .ok (.getfield 104, 3) := by decide +kernel
theorem dX9_guest_7 : decode cX9_guest 7 = .ok (.astore_n 3, 1) := by decide +kernel
theorem dX9_guest_8 : decode cX9_guest 8 = .ok (.aload_n 3, 1) := by decide +kernel
theorem dX9_guest_9 : decode cX9_guest 9 = .ok (.iload_n 1, 1) := by decide +kernel
theorem dX9_guest_10 : decode cX9_guest 10 = .ok (.invokevirtual 128, 3) := by decide +kernel
theorem dX9_guest_13 : decode cX9_guest 13 = .ok (.ifCond .ne 5, 3) := by decide +kernel
theorem dX9_guest_16 : decode cX9_guest 16 = .ok (.iconst (-1), 1) := by decide +kernel
theorem dX9_guest_17 : decode cX9_guest 17 = .ok (.ireturn, 1) := by decide +kernel
theorem dX9_guest_18 : decode cX9_guest 18 = .ok (.iload_n 2, 1) := by decide +kernel
theorem dX9_guest_19 : decode cX9_guest 19 = .ok (.tableswitch 81 0 5 #[37, 44, 51, 58, 68, 75], 37) := by decide +kernel
theorem dX9_guest_56 : decode cX9_guest 56 = .ok (.aload_n 3, 1) := by decide +kernel
theorem dX9_guest_57 : decode cX9_guest 57 = .ok (.getfield 129, 3) := by decide +kernel
theorem dX9_guest_60 : decode cX9_guest 60 = .ok (.iload_n 1, 1) := by decide +kernel
theorem dX9_guest_61 : decode cX9_guest 61 = .ok (.iaload, 1) := by decide +kernel
theorem dX9_guest_62 : decode cX9_guest 62 = .ok (.ireturn, 1) := by decide +kernel
theorem dX9_guest_63 : decode cX9_guest 63 = .ok (.aload_n 3, 1) := by decide +kernel
theorem dX9_guest_64 : decode cX9_guest 64 = .ok (.getfield 132, 3) := by decide +kernel
theorem dX9_guest_67 : decode cX9_guest 67 = .ok (.iload_n 1, 1) := by decide +kernel
theorem dX9_guest_68 : decode cX9_guest 68 = .ok (.iaload, 1) := by decide +kernel
theorem dX9_guest_69 : decode cX9_guest 69 = .ok (.ireturn, 1) := by decide +kernel
theorem dX9_guest_70 : decode cX9_guest 70 = .ok (.aload_n 3, 1) := by decide +kernel
theorem dX9_guest_71 : decode cX9_guest 71 = .ok (.getfield 135, 3) := by decide +kernel
theorem dX9_guest_74 : decode cX9_guest 74 = .ok (.iload_n 1, 1) := by decide +kernel
theorem dX9_guest_75 : decode cX9_guest 75 = .ok (.iaload, 1) := by decide +kernel
theorem dX9_guest_76 : decode cX9_guest 76 = .ok (.ireturn, 1) := by decide +kernel
theorem dX9_guest_77 : decode cX9_guest 77 = .ok (.aload_n 3, 1) := by decide +kernel
theorem dX9_guest_78 : decode cX9_guest 78 = .ok (.getfield 138, 3) := by decide +kernel
theorem dX9_guest_81 : decode cX9_guest 81 = .ok (.iload_n 1, 1) := by decide +kernel
theorem dX9_guest_82 : decode cX9_guest 82 = .ok (.iaload, 1) := by decide +kernel
theorem dX9_guest_83 : decode cX9_guest 83 = .ok (.bipush 100, 2) := by decide +kernel
theorem dX9_guest_85 : decode cX9_guest 85 = .ok (.iadd, 1) := by decide +kernel
theorem dX9_guest_86 : decode cX9_guest 86 = .ok (.ireturn, 1) := by decide +kernel
theorem dX9_guest_87 : decode cX9_guest 87 = .ok (.aload_n 3, 1) := by decide +kernel
theorem dX9_guest_88 : decode cX9_guest 88 = .ok (.getfield 141, 3) := by decide +kernel
theorem dX9_guest_91 : decode cX9_guest 91 = .ok (.iload_n 1, 1) := by decide +kernel
theorem dX9_guest_92 : decode cX9_guest 92 = .ok (.iaload, 1) := by decide +kernel
theorem dX9_guest_93 : decode cX9_guest 93 = .ok (.ireturn, 1) := by decide +kernel
theorem dX9_guest_94 : decode cX9_guest 94 = .ok (.aload_n 3, 1) := by decide +kernel
theorem dX9_guest_95 : decode cX9_guest 95 = .ok (.iload_n 1, 1) := by decide +kernel
theorem dX9_guest_96 : decode cX9_guest 96 = .ok (.invokevirtual 144, 3) := by decide +kernel
theorem dX9_guest_99 : decode cX9_guest 99 = .ok (.ireturn, 1) := by decide +kernel
theorem dX9_guest_100 : decode cX9_guest 100 = .ok (.iconst (-1), 1) := by decide +kernel
theorem dX9_guest_101 : decode cX9_guest 101 = .ok (.ireturn, 1) := by decide +kernel
theorem dX9_harm_0 : decode cX9_harm 0 = .ok (.aload_n 0, 1) := by decide +kernel
theorem dX9_harm_1 : decode cX9_harm 1 = .ok (.getfield 58, 3) := by decide +kernel
theorem dX9_harm_4 : decode cX9_harm 4 = .ok (.getfield 104, 3) := by decide +kernel
theorem dX9_harm_7 : decode cX9_harm 7 = .ok (.iload_n 1, 1) := by decide +kernel
theorem dX9_harm_8 : decode cX9_harm 8 = .ok (.invokevirtual 128, 3) := by decide +kernel
theorem dX9_harm_11 : decode cX9_harm 11 = .ok (.ifCond .eq 24, 3) := by decide +kernel
theorem dX9_harm_14 : decode cX9_harm 14 = .ok (.aload_n 0, 1) := by decide +kernel
theorem dX9_harm_15 : decode cX9_harm 15 = .ok (.getfield 58, 3) := by decide +kernel
theorem dX9_harm_18 : decode cX9_harm 18 = .ok (.getfield 111, 3) := by decide +kernel
theorem dX9_harm_21 : decode cX9_harm 21 = .ok (.iload_n 2, 1) := by decide +kernel
theorem dX9_harm_22 : decode cX9_harm 22 = .ok (.invokevirtual 115, 3) := by decide +kernel
theorem dX9_harm_25 : decode cX9_harm 25 = .ok (.ifCond .eq 10, 3) := by decide +kernel
theorem dX9_harm_28 : decode cX9_harm 28 = .ok (.iload_n 3, 1) := by decide +kernel
theorem dX9_harm_29 : decode cX9_harm 29 = .ok (.invokestatic 121, 3) := by decide +kernel
theorem dX9_harm_32 : decode cX9_harm 32 = .ok (.ifCond .ne 5, 3) := by decide +kernel
theorem dX9_harm_35 : decode cX9_harm 35 = .ok (.iconst (-1), 1) := by decide +kernel
theorem dX9_harm_36 : decode cX9_harm 36 = .ok (.ireturn, 1) := by decide +kernel
theorem dX9_harm_37 : decode cX9_harm 37 = .ok (.aload_n 0, 1) := by decide +kernel
theorem dX9_harm_38 : decode cX9_harm 38 = .ok (.getfield 58, 3) := by decide +kernel
theorem dX9_harm_41 : decode cX9_harm 41 = .ok (.getfield 104, 3) := by decide +kernel
theorem dX9_harm_44 : decode cX9_harm 44 = .ok (.iload_n 1, 1) := by decide +kernel
theorem dX9_harm_45 : decode cX9_harm 45 = .ok (.iload_n 3, 1) := by decide +kernel
theorem dX9_harm_46 : decode cX9_harm 46 = .ok (.aload_n 0, 1) := by decide +kernel
theorem dX9_harm_47 : decode cX9_harm 47 = .ok (.getfield 58, 3) := by decide +kernel
theorem dX9_harm_50 : decode cX9_harm 50 = .ok (.getfield 111, 3) := by decide +kernel
theorem dX9_harm_53 : decode cX9_harm 53 = .ok (.iload_n 2, 1) := by decide +kernel
theorem dX9_harm_54 : decode cX9_harm 54 = .ok (.iload_n 3, 1) := by decide +kernel
theorem dX9_harm_55 : decode cX9_harm 55 = .ok (.invokevirtual 124, 3) := by decide +kernel
theorem dX9_harm_58 : decode cX9_harm 58 = .ok (.invokevirtual 148, 3) := by decide +kernel
theorem dX9_harm_61 : decode cX9_harm 61 = .ok (.ireturn, 1) := by decide +kernel
theorem dX9_lies_0 : decode cX9_lies 0 = .ok (.aload_n 0, 1) := by decide +kernel
theorem dX9_lies_1 : decode cX9_lies 1 = .ok (.getfield 58, 3) := by decide +kernel
theorem dX9_lies_4 : decode cX9_lies 4 = .ok (.getfield 104, 3) := by decide +kernel
theorem dX9_lies_7 : decode cX9_lies 7 = .ok (.iload_n 1, 1) := by decide +kernel
theorem dX9_lies_8 : decode cX9_lies 8 = .ok (.invokevirtual 128, 3) := by decide +kernel
theorem dX9_lies_11 : decode cX9_lies 11 = .ok (.ifCond .eq 12, 3) := by decide +kernel
theorem dX9_lies_14 : decode cX9_lies 14 = .ok (.iload_n 2, 1) := by decide +kernel
theorem dX9_lies_15 : decode cX9_lies 15 = .ok (.iconst 0, 1) := by decide +kernel
theorem dX9_lies_16 : decode cX9_lies 16 = .ok (.iconst 4, 1) := by decide +kernel
theorem dX9_lies_17 : decode cX9_lies 17 = .ok (.invokestatic 89, 3) := by decide +kernel
theorem dX9_lies_20 : decode cX9_lies 20 = .ok (.ifCond .ne 5, 3) := by decide +kernel
theorem dX9_lies_23 : decode cX9_lies 23 = .ok (.iconst (-1), 1) := by decide +kernel
theorem dX9_lies_24 : decode cX9_lies 24 = .ok (.ireturn, 1) := by decide +kernel
theorem dX9_lies_25 : decode cX9_lies 25 = .ok (.aload_n 0, 1) := by decide +kernel
theorem dX9_lies_26 : decode cX9_lies 26 = .ok (.getfield 19, 3) := by decide +kernel
theorem dX9_lies_29 : decode cX9_lies 29 = .ok (.aload_n 0, 1) := by decide +kernel
theorem dX9_lies_30 : decode cX9_lies 30 = .ok (.getfield 58, 3) := by decide +kernel
theorem dX9_lies_33 : decode cX9_lies 33 = .ok (.ldc 152, 2) := by decide +kernel
theorem dX9_lies_35 : decode cX9_lies 35 = .ok (.invokevirtual 153, 3) := by decide +kernel
theorem dX9_lies_38 : decode cX9_lies 38 = .ok (.aload_n 0, 1) := by decide +kernel
theorem dX9_lies_39 : decode cX9_lies 39 = .ok (.getfield 19, 3) := by decide +kernel
theorem dX9_lies_42 : decode cX9_lies 42 = .ok (.iload_n 1, 1) := by decide +kernel
theorem dX9_lies_43 : decode cX9_lies 43 = .ok (.invokevirtual 157, 3) := by decide +kernel
theorem dX9_lies_46 : decode cX9_lies 46 = .ok (.ifCond .ne 6, 3) := by decide +kernel
theorem dX9_lies_49 : decode cX9_lies 49 = .ok (.bipush (-4), 2) := by decide +kernel
theorem dX9_lies_51 : decode cX9_lies 51 = .ok (.ireturn, 1) := by decide +kernel
theorem dX9_lies_52 : decode cX9_lies 52 = .ok (.iload_n 2, 1) := by decide +kernel
theorem dX9_lies_53 : decode cX9_lies 53 = .ok (.tableswitch 71 0 3 #[31, 41, 51, 61], 31) := by decide +kernel
theorem dX9_lies_84 : decode cX9_lies 84 = .ok (.aload_n 0, 1) := by decide +kernel
theorem dX9_lies_85 : decode cX9_lies 85 = .ok (.getfield 19, 3) := by decide +kernel
theorem dX9_lies_88 : decode cX9_lies 88 = .ok (.getfield 160, 3) := by decide +kernel
theorem dX9_lies_91 : decode cX9_lies 91 = .ok (.iload_n 1, 1) := by decide +kernel
theorem dX9_lies_92 : decode cX9_lies 92 = .ok (.iaload, 1) := by decide +kernel
theorem dX9_lies_93 : decode cX9_lies 93 = .ok (.ireturn, 1) := by decide +kernel
theorem dX9_lies_94 : decode cX9_lies 94 = .ok (.aload_n 0, 1) := by decide +kernel
theorem dX9_lies_95 : decode cX9_lies 95 = .ok (.getfield 19, 3) := by decide +kernel
theorem dX9_lies_98 : decode cX9_lies 98 = .ok (.getfield 163, 3) := by decide +kernel
theorem dX9_lies_101 : decode cX9_lies 101 = .ok (.iload_n 1, 1) := by decide +kernel
theorem dX9_lies_102 : decode cX9_lies 102 = .ok (.iaload, 1) := by decide +kernel
theorem dX9_lies_103 : decode cX9_lies 103 = .ok (.ireturn, 1) := by decide +kernel
theorem dX9_lies_104 : decode cX9_lies 104 = .ok (.aload_n 0, 1) := by decide +kernel
theorem dX9_lies_105 : decode cX9_lies 105 = .ok (.getfield 19, 3) := by decide +kernel
theorem dX9_lies_108 : decode cX9_lies 108 = .ok (.getfield 166, 3) := by decide +kernel
theorem dX9_lies_111 : decode cX9_lies 111 = .ok (.iload_n 1, 1) := by decide +kernel
theorem dX9_lies_112 : decode cX9_lies 112 = .ok (.iaload, 1) := by decide +kernel
theorem dX9_lies_113 : decode cX9_lies 113 = .ok (.ireturn, 1) := by decide +kernel
theorem dX9_lies_114 : decode cX9_lies 114 = .ok (.aload_n 0, 1) := by decide +kernel
theorem dX9_lies_115 : decode cX9_lies 115 = .ok (.getfield 19, 3) := by decide +kernel
theorem dX9_lies_118 : decode cX9_lies 118 = .ok (.getfield 169, 3) := by decide +kernel
theorem dX9_lies_121 : decode cX9_lies 121 = .ok (.iload_n 1, 1) := by decide +kernel
theorem dX9_lies_122 : decode cX9_lies 122 = .ok (.iaload, 1) := by decide +kernel
theorem dX9_lies_123 : decode cX9_lies 123 = .ok (.ireturn, 1) := by decide +kernel
theorem dX9_lies_124 : decode cX9_lies 124 = .ok (.aload_n 0, 1) := by decide +kernel
theorem dX9_lies_125 : decode cX9_lies 125 = .ok (.getfield 19, 3) := by decide +kernel
theorem dX9_lies_128 : decode cX9_lies 128 = .ok (.getfield 172, 3) := by decide +kernel
theorem dX9_lies_131 : decode cX9_lies 131 = .ok (.iload_n 1, 1) := by decide +kernel
theorem dX9_lies_132 : decode cX9_lies 132 = .ok (.iaload, 1) := by decide +kernel
theorem dX9_lies_133 : decode cX9_lies 133 = .ok (.ireturn, 1) := by decide +kernel
theorem dX9_who_0 : decode cX9_who 0 = .ok (.aload_n 0, 1) := by decide +kernel
theorem dX9_who_1 : decode cX9_who 1 = .ok (.getfield 58, 3) := by decide +kernel
theorem dX9_who_4 : decode cX9_who 4 = .ok (.getfield 111, 3) := by decide +kernel
theorem dX9_who_7 : decode cX9_who 7 = .ok (.iload_n 1, 1) := by decide +kernel
theorem dX9_who_8 : decode cX9_who 8 = .ok (.invokevirtual 115, 3) := by decide +kernel
theorem dX9_who_11 : decode cX9_who 11 = .ok (.ifCond .eq 10, 3) := by decide +kernel
theorem dX9_who_14 : decode cX9_who 14 = .ok (.iload_n 2, 1) := by decide +kernel
theorem dX9_who_15 : decode cX9_who 15 = .ok (.invokestatic 121, 3) := by decide +kernel
theorem dX9_who_18 : decode cX9_who 18 = .ok (.ifCond .ne 5, 3) := by decide +kernel
theorem dX9_who_21 : decode cX9_who 21 = .ok (.iconst (-1), 1) := by decide +kernel
theorem dX9_who_22 : decode cX9_who 22 = .ok (.ireturn, 1) := by decide +kernel
theorem dX9_who_23 : decode cX9_who 23 = .ok (.aload_n 0, 1) := by decide +kernel
theorem dX9_who_24 : decode cX9_who 24 = .ok (.getfield 19, 3) := by decide +kernel
theorem dX9_who_27 : decode cX9_who 27 = .ok (.aload_n 0, 1) := by decide +kernel
theorem dX9_who_28 : decode cX9_who 28 = .ok (.getfield 58, 3) := by decide +kernel
theorem dX9_who_31 : decode cX9_who 31 = .ok (.ldc 152, 2) := by decide +kernel
theorem dX9_who_33 : decode cX9_who 33 = .ok (.invokevirtual 153, 3) := by decide +kernel
theorem dX9_who_36 : decode cX9_who 36 = .ok (.iconst 0, 1) := by decide +kernel
theorem dX9_who_37 : decode cX9_who 37 = .ok (.istore_n 3, 1) := by decide +kernel
theorem dX9_who_38 : decode cX9_who 38 = .ok (.iload_n 3, 1) := by decide +kernel
theorem dX9_who_39 : decode cX9_who 39 = .ok (.aload_n 0, 1) := by decide +kernel
theorem dX9_who_40 : decode cX9_who 40 = .ok (.getfield 58, 3) := by decide +kernel
theorem dX9_who_43 : decode cX9_who 43 = .ok (.getfield 104, 3) := by decide +kernel
theorem dX9_who_46 : decode cX9_who 46 = .ok (.getfield 108, 3) := by decide +kernel
theorem dX9_who_49 : decode cX9_who 49 = .ok (.if_icmp .ge 48, 3) := by decide +kernel
theorem dX9_who_52 : decode cX9_who 52 = .ok (.aload_n 0, 1) := by decide +kernel
theorem dX9_who_53 : decode cX9_who 53 = .ok (.getfield 19, 3) := by decide +kernel
theorem dX9_who_56 : decode cX9_who 56 = .ok (.iload_n 3, 1) := by decide +kernel
theorem dX9_who_57 : decode cX9_who 57 = .ok (.invokevirtual 157, 3) := by decide +kernel
theorem dX9_who_60 : decode cX9_who 60 = .ok (.ifCond .eq 31, 3) := by decide +kernel
theorem dX9_who_63 : decode cX9_who 63 = .ok (.aload_n 0, 1) := by decide +kernel
theorem dX9_who_64 : decode cX9_who 64 = .ok (.getfield 19, 3) := by decide +kernel
theorem dX9_who_67 : decode cX9_who 67 = .ok (.getfield 163, 3) := by decide +kernel
theorem dX9_who_70 : decode cX9_who 70 = .ok (.iload_n 3, 1) := by decide +kernel
theorem dX9_who_71 : decode cX9_who 71 = .ok (.iaload, 1) := by decide +kernel
theorem dX9_who_72 : decode cX9_who 72 = .ok (.iload_n 1, 1) := by decide +kernel
theorem dX9_who_73 : decode cX9_who 73 = .ok (.if_icmp .ne 18, 3) := by decide +kernel
theorem dX9_who_76 : decode cX9_who 76 = .ok (.aload_n 0, 1) := by decide +kernel
theorem dX9_who_77 : decode cX9_who 77 = .ok (.getfield 19, 3) := by decide +kernel
theorem dX9_who_80 : decode cX9_who 80 = .ok (.getfield 160, 3) := by decide +kernel
theorem dX9_who_83 : decode cX9_who 83 = .ok (.iload_n 3, 1) := by decide +kernel
theorem dX9_who_84 : decode cX9_who 84 = .ok (.iaload, 1) := by decide +kernel
theorem dX9_who_85 : decode cX9_who 85 = .ok (.iload_n 2, 1) := by decide +kernel
theorem dX9_who_86 : decode cX9_who 86 = .ok (.if_icmp .ne 5, 3) := by decide +kernel
theorem dX9_who_89 : decode cX9_who 89 = .ok (.iload_n 3, 1) := by decide +kernel
theorem dX9_who_90 : decode cX9_who 90 = .ok (.ireturn, 1) := by decide +kernel
theorem dX9_who_91 : decode cX9_who 91 = .ok (.iinc 3 1, 3) := by decide +kernel
theorem dX9_who_94 : decode cX9_who 94 = .ok (.goto (-56), 3) := by decide +kernel
theorem dX9_who_97 : decode cX9_who 97 = .ok (.bipush (-4), 2) := by decide +kernel
theorem dX9_who_99 : decode cX9_who 99 = .ok (.ireturn, 1) := by decide +kernel
theorem dX9_all_0 : decode cX9_all 0 = .ok (.iload_n 1, 1) := by decide +kernel
theorem dX9_all_1 : decode cX9_all 1 = .ok (.iconst 0, 1) := by decide +kernel
theorem dX9_all_2 : decode cX9_all 2 = .ok (.iconst 3, 1) := by decide +kernel
theorem dX9_all_3 : decode cX9_all 3 = .ok (.invokestatic 89, 3) := by decide +kernel
theorem dX9_all_6 : decode cX9_all 6 = .ok (.ifCond .ne 5, 3) := by decide +kernel
theorem dX9_all_9 : decode cX9_all 9 = .ok (.iconst (-1), 1) := by decide +kernel
theorem dX9_all_10 : decode cX9_all 10 = .ok (.ireturn, 1) := by decide +kernel
theorem dX9_all_11 : decode cX9_all 11 = .ok (.aload_n 0, 1) := by decide +kernel
theorem dX9_all_12 : decode cX9_all 12 = .ok (.getfield 19, 3) := by decide +kernel
theorem dX9_all_15 : decode cX9_all 15 = .ok (.aload_n 0, 1) := by decide +kernel
theorem dX9_all_16 : decode cX9_all 16 = .ok (.getfield 58, 3) := by decide +kernel
theorem dX9_all_19 : decode cX9_all 19 = .ok (.ldc 152, 2) := by decide +kernel
theorem dX9_all_21 : decode cX9_all 21 = .ok (.invokevirtual 153, 3) := by decide +kernel
theorem dX9_all_24 : decode cX9_all 24 = .ok (.iload_n 1, 1) := by decide +kernel
theorem dX9_all_25 : decode cX9_all 25 = .ok (.tableswitch 68 0 2 #[27, 42, 53], 27) := by decide +kernel
theorem dX9_all_52 : decode cX9_all 52 = .ok (.aload_n 0, 1) := by decide +kernel
theorem dX9_all_53 : decode cX9_all 53 = .ok (.getfield 19, 3) := by decide +kernel
theorem dX9_all_56 : decode cX9_all 56 = .ok (.aload_n 0, 1) := by decide +kernel
theorem dX9_all_57 : decode cX9_all 57 = .ok (.getfield 58, 3) := by decide +kernel
theorem dX9_all_60 : decode cX9_all 60 = .ok (.getfield 104, 3) := by decide +kernel
theorem dX9_all_63 : decode cX9_all 63 = .ok (.invokevirtual 175, 3) := by decide +kernel
theorem dX9_all_66 : decode cX9_all 66 = .ok (.ireturn, 1) := by decide +kernel
theorem dX9_all_67 : decode cX9_all 67 = .ok (.aload_n 0, 1) := by decide +kernel
theorem dX9_all_68 : decode cX9_all 68 = .ok (.getfield 19, 3) := by decide +kernel
theorem dX9_all_71 : decode cX9_all 71 = .ok (.getfield 179, 3) := by decide +kernel
theorem dX9_all_74 : decode cX9_all 74 = .ok (.invokestatic 182, 3) := by decide +kernel
theorem dX9_all_77 : decode cX9_all 77 = .ok (.ireturn, 1) := by decide +kernel
theorem dX9_all_78 : decode cX9_all 78 = .ok (.aload_n 0, 1) := by decide +kernel
theorem dX9_all_79 : decode cX9_all 79 = .ok (.getfield 19, 3) := by decide +kernel
theorem dX9_all_82 : decode cX9_all 82 = .ok (.aload_n 0, 1) := by decide +kernel
theorem dX9_all_83 : decode cX9_all 83 = .ok (.getfield 58, 3) := by decide +kernel
theorem dX9_all_86 : decode cX9_all 86 = .ok (.getfield 104, 3) := by decide +kernel
theorem dX9_all_89 : decode cX9_all 89 = .ok (.invokevirtual 187, 3) := by decide +kernel
theorem dX9_all_92 : decode cX9_all 92 = .ok (.ireturn, 1) := by decide +kernel
theorem dX9_all_93 : decode cX9_all 93 = .ok (.aload_n 0, 1) := by decide +kernel
theorem dX9_all_94 : decode cX9_all 94 = .ok (.getfield 19, 3) := by decide +kernel
theorem dX9_all_97 : decode cX9_all 97 = .ok (.aload_n 0, 1) := by decide +kernel
theorem dX9_all_98 : decode cX9_all 98 = .ok (.getfield 58, 3) := by decide +kernel
theorem dX9_all_101 : decode cX9_all 101 = .ok (.getfield 104, 3) := by decide +kernel
theorem dX9_all_104 : decode cX9_all 104 = .ok (.invokevirtual 190, 3) := by decide +kernel
theorem dX9_all_107 : decode cX9_all 107 = .ok (.ireturn, 1) := by decide +kernel
theorem dX9_move_0 : decode cX9_move 0 = .ok (.aload_n 0, 1) := by decide +kernel
theorem dX9_move_1 : decode cX9_move 1 = .ok (.getfield 58, 3) := by decide +kernel
theorem dX9_move_4 : decode cX9_move 4 = .ok (.getfield 104, 3) := by decide +kernel
theorem dX9_move_7 : decode cX9_move 7 = .ok (.iload_n 1, 1) := by decide +kernel
theorem dX9_move_8 : decode cX9_move 8 = .ok (.invokevirtual 128, 3) := by decide +kernel
theorem dX9_move_11 : decode cX9_move 11 = .ok (.ifCond .eq 17, 3) := by decide +kernel
theorem dX9_move_14 : decode cX9_move 14 = .ok (.aload_n 0, 1) := by decide +kernel
theorem dX9_move_15 : decode cX9_move 15 = .ok (.getfield 58, 3) := by decide +kernel
theorem dX9_move_18 : decode cX9_move 18 = .ok (.getfield 104, 3) := by decide +kernel
theorem dX9_move_21 : decode cX9_move 21 = .ok (.iload_n 2, 1) := by decide +kernel
theorem dX9_move_22 : decode cX9_move 22 = .ok (.invokevirtual 128, 3) := by decide +kernel
theorem dX9_move_25 : decode cX9_move 25 = .ok (.ifCond .ne 5, 3) := by decide +kernel
theorem dX9_move_28 : decode cX9_move 28 = .ok (.iconst (-1), 1) := by decide +kernel
theorem dX9_move_29 : decode cX9_move 29 = .ok (.ireturn, 1) := by decide +kernel
theorem dX9_move_30 : decode cX9_move 30 = .ok (.aload_n 0, 1) := by decide +kernel
theorem dX9_move_31 : decode cX9_move 31 = .ok (.getfield 58, 3) := by decide +kernel
theorem dX9_move_34 : decode cX9_move 34 = .ok (.getfield 104, 3) := by decide +kernel
theorem dX9_move_37 : decode cX9_move 37 = .ok (.iload_n 1, 1) := by decide +kernel
theorem dX9_move_38 : decode cX9_move 38 = .ok (.invokevirtual 144, 3) := by decide +kernel
theorem dX9_move_41 : decode cX9_move 41 = .ok (.istore_n 3, 1) := by decide +kernel
theorem dX9_move_42 : decode cX9_move 42 = .ok (.aload_n 0, 1) := by decide +kernel
theorem dX9_move_43 : decode cX9_move 43 = .ok (.getfield 58, 3) := by decide +kernel
theorem dX9_move_46 : decode cX9_move 46 = .ok (.getfield 104, 3) := by decide +kernel
theorem dX9_move_49 : decode cX9_move 49 = .ok (.iload_n 3, 1) := by decide +kernel
theorem dX9_move_50 : decode cX9_move 50 = .ok (.iload_n 2, 1) := by decide +kernel
theorem dX9_move_51 : decode cX9_move 51 = .ok (.invokevirtual 193, 3) := by decide +kernel
theorem dX9_move_54 : decode cX9_move 54 = .ok (.aload_n 0, 1) := by decide +kernel
theorem dX9_move_55 : decode cX9_move 55 = .ok (.iconst 0, 1) := by decide +kernel
theorem dX9_move_56 : decode cX9_move 56 = .ok (.iload_n 1, 1) := by decide +kernel
theorem dX9_move_57 : decode cX9_move 57 = .ok (.iload_n 3, 1) := by decide +kernel
theorem dX9_move_58 : decode cX9_move 58 = .ok (.invokevirtual 197, 3) := by decide +kernel
theorem dX9_move_61 : decode cX9_move 61 = .ok (.iload_n 3, 1) := by decide +kernel
theorem dX9_move_62 : decode cX9_move 62 = .ok (.ireturn, 1) := by decide +kernel
theorem dX9_wear_0 : decode cX9_wear 0 = .ok (.aload_n 0, 1) := by decide +kernel
theorem dX9_wear_1 : decode cX9_wear 1 = .ok (.getfield 58, 3) := by decide +kernel
theorem dX9_wear_4 : decode cX9_wear 4 = .ok (.getfield 104, 3) := by decide +kernel
theorem dX9_wear_7 : decode cX9_wear 7 = .ok (.iload_n 1, 1) := by decide +kernel
theorem dX9_wear_8 : decode cX9_wear 8 = .ok (.invokevirtual 128, 3) := by decide +kernel
theorem dX9_wear_11 : decode cX9_wear 11 = .ok (.ifCond .eq 14, 3) := by decide +kernel
theorem dX9_wear_14 : decode cX9_wear 14 = .ok (.iload_n 2, 1) := by decide +kernel
theorem dX9_wear_15 : decode cX9_wear 15 = .ok (.bipush (-9), 2) := by decide +kernel
theorem dX9_wear_17 : decode cX9_wear 17 = .ok (.bipush 9, 2) := by decide +kernel
theorem dX9_wear_19 : decode cX9_wear 19 = .ok (.invokestatic 89, 3) := by decide +kernel
theorem dX9_wear_22 : decode cX9_wear 22 = .ok (.ifCond .ne 5, 3) := by decide +kernel
theorem dX9_wear_25 : decode cX9_wear 25 = .ok (.iconst (-1), 1) := by decide +kernel
theorem dX9_wear_26 : decode cX9_wear 26 = .ok (.ireturn, 1) := by decide +kernel
theorem dX9_wear_27 : decode cX9_wear 27 = .ok (.aload_n 0, 1) := by decide +kernel
theorem dX9_wear_28 : decode cX9_wear 28 = .ok (.getfield 58, 3) := by decide +kernel
theorem dX9_wear_31 : decode cX9_wear 31 = .ok (.getfield 104, 3) := by decide +kernel
theorem dX9_wear_34 : decode cX9_wear 34 = .ok (.getfield 138, 3) := by decide +kernel
theorem dX9_wear_37 : decode cX9_wear 37 = .ok (.iload_n 1, 1) := by decide +kernel
theorem dX9_wear_38 : decode cX9_wear 38 = .ok (.iaload, 1) := by decide +kernel
theorem dX9_wear_39 : decode cX9_wear 39 = .ok (.istore_n 3, 1) := by decide +kernel
theorem dX9_wear_40 : decode cX9_wear 40 = .ok (.aload_n 0, 1) := by decide +kernel
theorem dX9_wear_41 : decode cX9_wear 41 = .ok (.getfield 58, 3) := by decide +kernel
theorem dX9_wear_44 : decode cX9_wear 44 = .ok (.getfield 104, 3) := by decide +kernel
theorem dX9_wear_47 : decode cX9_wear 47 = .ok (.getfield 138, 3) := by decide +kernel
theorem dX9_wear_50 : decode cX9_wear 50 = .ok (.iload_n 1, 1) := by decide +kernel
theorem dX9_wear_51 : decode cX9_wear 51 = .ok (.iload_n 2, 1) := by decide +kernel
theorem dX9_wear_52 : decode cX9_wear 52 = .ok (.iastore, 1) := by decide +kernel
theorem dX9_wear_53 : decode cX9_wear 53 = .ok (.aload_n 0, 1) := by decide +kernel
theorem dX9_wear_54 : decode cX9_wear 54 = .ok (.iconst 1, 1) := by decide +kernel
theorem dX9_wear_55 : decode cX9_wear 55 = .ok (.iload_n 1, 1) := by decide +kernel
theorem dX9_wear_56 : decode cX9_wear 56 = .ok (.iload_n 3, 1) := by decide +kernel
theorem dX9_wear_57 : decode cX9_wear 57 = .ok (.invokevirtual 197, 3) := by decide +kernel
theorem dX9_wear_60 : decode cX9_wear 60 = .ok (.iload_n 3, 1) := by decide +kernel
theorem dX9_wear_61 : decode cX9_wear 61 = .ok (.bipush 100, 2) := by decide +kernel
theorem dX9_wear_63 : decode cX9_wear 63 = .ok (.iadd, 1) := by decide +kernel
theorem dX9_wear_64 : decode cX9_wear 64 = .ok (.ireturn, 1) := by decide +kernel
theorem dX9_come_0 : decode cX9_come 0 = .ok (.aload_n 0, 1) := by decide +kernel
theorem dX9_come_1 : decode cX9_come 1 = .ok (.getfield 58, 3) := by decide +kernel
theorem dX9_come_4 : decode cX9_come 4 = .ok (.getfield 104, 3) := by decide +kernel
theorem dX9_come_7 : decode cX9_come 7 = .ok (.iload_n 1, 1) := by decide +kernel
theorem dX9_come_8 : decode cX9_come 8 = .ok (.invokevirtual 128, 3) := by decide +kernel
theorem dX9_come_11 : decode cX9_come 11 = .ok (.ifCond .eq 13, 3) := by decide +kernel
theorem dX9_come_14 : decode cX9_come 14 = .ok (.iload_n 2, 1) := by decide +kernel
theorem dX9_come_15 : decode cX9_come 15 = .ok (.iconst 0, 1) := by decide +kernel
theorem dX9_come_16 : decode cX9_come 16 = .ok (.bipush 9, 2) := by decide +kernel
theorem dX9_come_18 : decode cX9_come 18 = .ok (.invokestatic 89, 3) := by decide +kernel
theorem dX9_come_21 : decode cX9_come 21 = .ok (.ifCond .ne 5, 3) := by decide +kernel
theorem dX9_come_24 : decode cX9_come 24 = .ok (.iconst (-1), 1) := by decide +kernel
theorem dX9_come_25 : decode cX9_come 25 = .ok (.ireturn, 1) := by decide +kernel
theorem dX9_come_26 : decode cX9_come 26 = .ok (.aload_n 0, 1) := by decide +kernel
theorem dX9_come_27 : decode cX9_come 27 = .ok (.getfield 58, 3) := by decide +kernel
theorem dX9_come_30 : decode cX9_come 30 = .ok (.getfield 104, 3) := by decide +kernel
theorem dX9_come_33 : decode cX9_come 33 = .ok (.getfield 132, 3) := by decide +kernel
theorem dX9_come_36 : decode cX9_come 36 = .ok (.iload_n 1, 1) := by decide +kernel
theorem dX9_come_37 : decode cX9_come 37 = .ok (.iaload, 1) := by decide +kernel
theorem dX9_come_38 : decode cX9_come 38 = .ok (.istore_n 3, 1) := by decide +kernel
theorem dX9_come_39 : decode cX9_come 39 = .ok (.aload_n 0, 1) := by decide +kernel
theorem dX9_come_40 : decode cX9_come 40 = .ok (.getfield 58, 3) := by decide +kernel
theorem dX9_come_43 : decode cX9_come 43 = .ok (.getfield 104, 3) := by decide +kernel
theorem dX9_come_46 : decode cX9_come 46 = .ok (.getfield 132, 3) := by decide +kernel
theorem dX9_come_49 : decode cX9_come 49 = .ok (.iload_n 1, 1) := by decide +kernel
theorem dX9_come_50 : decode cX9_come 50 = .ok (.iload_n 2, 1) := by decide +kernel
theorem dX9_come_51 : decode cX9_come 51 = .ok (.iastore, 1) := by decide +kernel
theorem dX9_come_52 : decode cX9_come 52 = .ok (.aload_n 0, 1) := by decide +kernel
theorem dX9_come_53 : decode cX9_come 53 = .ok (.iconst 2, 1) := by decide +kernel
theorem dX9_come_54 : decode cX9_come 54 = .ok (.iload_n 1, 1) := by decide +kernel
theorem dX9_come_55 : decode cX9_come 55 = .ok (.iload_n 3, 1) := by decide +kernel
theorem dX9_come_56 : decode cX9_come 56 = .ok (.invokevirtual 197, 3) := by decide +kernel
theorem dX9_come_59 : decode cX9_come 59 = .ok (.iload_n 3, 1) := by decide +kernel
theorem dX9_come_60 : decode cX9_come 60 = .ok (.ireturn, 1) := by decide +kernel
theorem dX9_undo_0 : decode cX9_undo 0 = .ok (.aload_n 0, 1) := by decide +kernel
theorem dX9_undo_1 : decode cX9_undo 1 = .ok (.getfield 26, 3) := by decide +kernel
theorem dX9_undo_4 : decode cX9_undo 4 = .ok (.getfield 97, 3) := by decide +kernel
theorem dX9_undo_7 : decode cX9_undo 7 = .ok (.ifCond .ne 6, 3) := by decide +kernel
theorem dX9_undo_10 : decode cX9_undo 10 = .ok (.bipush (-2), 2) := by decide +kernel
theorem dX9_undo_12 : decode cX9_undo 12 = .ok (.ireturn, 1) := by decide +kernel
theorem dX9_undo_13 : decode cX9_undo 13 = .ok (.aload_n 0, 1) := by decide +kernel
theorem dX9_undo_14 : decode cX9_undo 14 = .ok (.getfield 26, 3) := by decide +kernel
theorem dX9_undo_17 : decode cX9_undo 17 = .ok (.aload_n 0, 1) := by decide +kernel
theorem dX9_undo_18 : decode cX9_undo 18 = .ok (.getfield 58, 3) := by decide +kernel
theorem dX9_undo_21 : decode cX9_undo 21 = .ok (.getfield 104, 3) := by decide +kernel
theorem dX9_undo_24 : decode cX9_undo 24 = .ok (.invokevirtual 201, 3) := by decide +kernel
theorem dX9_undo_27 : decode cX9_undo 27 = .ok (.aload_n 0, 1) := by decide +kernel
theorem dX9_undo_28 : decode cX9_undo 28 = .ok (.getfield 47, 3) := by decide +kernel
theorem dX9_undo_31 : decode cX9_undo 31 = .ok (.iconst 0, 1) := by decide +kernel
theorem dX9_undo_32 : decode cX9_undo 32 = .ok (.putfield 100, 3) := by decide +kernel
theorem dX9_undo_35 : decode cX9_undo 35 = .ok (.aload_n 0, 1) := by decide +kernel
theorem dX9_undo_36 : decode cX9_undo 36 = .ok (.getfield 26, 3) := by decide +kernel
theorem dX9_undo_39 : decode cX9_undo 39 = .ok (.getfield 97, 3) := by decide +kernel
theorem dX9_undo_42 : decode cX9_undo 42 = .ok (.ireturn, 1) := by decide +kernel
theorem dX9_order_0 : decode cX9_order 0 = .ok (.iload_n 1, 1) := by decide +kernel
theorem dX9_order_1 : decode cX9_order 1 = .ok (.iconst (-1), 1) := by decide +kernel
theorem dX9_order_2 : decode cX9_order 2 = .ok (.if_icmp .eq 19, 3) := by decide +kernel
theorem dX9_order_5 : decode cX9_order 5 = .ok (.aload_n 0, 1) := by decide +kernel
theorem dX9_order_6 : decode cX9_order 6 = .ok (.getfield 58, 3) := by decide +kernel
theorem dX9_order_9 : decode cX9_order 9 = .ok (.getfield 104, 3) := by decide +kernel
theorem dX9_order_12 : decode cX9_order 12 = .ok (.iload_n 1, 1) := by decide +kernel
theorem dX9_order_13 : decode cX9_order 13 = .ok (.invokevirtual 128, 3) := by decide +kernel
theorem dX9_order_16 : decode cX9_order 16 = .ok (.ifCond .ne 5, 3) := by decide +kernel
theorem dX9_order_19 : decode cX9_order 19 = .ok (.iconst (-1), 1) := by decide +kernel
theorem dX9_order_20 : decode cX9_order 20 = .ok (.ireturn, 1) := by decide +kernel
theorem dX9_order_21 : decode cX9_order 21 = .ok (.aload_n 0, 1) := by decide +kernel
theorem dX9_order_22 : decode cX9_order 22 = .ok (.getfield 47, 3) := by decide +kernel
theorem dX9_order_25 : decode cX9_order 25 = .ok (.getfield 100, 3) := by decide +kernel
theorem dX9_order_28 : decode cX9_order 28 = .ok (.ifCond .ne 18, 3) := by decide +kernel
theorem dX9_order_31 : decode cX9_order 31 = .ok (.aload_n 0, 1) := by decide +kernel
theorem dX9_order_32 : decode cX9_order 32 = .ok (.getfield 47, 3) := by decide +kernel
theorem dX9_order_35 : decode cX9_order 35 = .ok (.aload_n 0, 1) := by decide +kernel
theorem dX9_order_36 : decode cX9_order 36 = .ok (.getfield 58, 3) := by decide +kernel
theorem dX9_order_39 : decode cX9_order 39 = .ok (.aload_n 0, 1) := by decide +kernel
theorem dX9_order_40 : decode cX9_order 40 = .ok (.getfield 19, 3) := by decide +kernel
theorem dX9_order_43 : decode cX9_order 43 = .ok (.invokevirtual 205, 3) := by decide +kernel
theorem dX9_order_46 : decode cX9_order 46 = .ok (.iload_n 1, 1) := by decide +kernel
theorem dX9_order_47 : decode cX9_order 47 = .ok (.iconst (-1), 1) := by decide +kernel
theorem dX9_order_48 : decode cX9_order 48 = .ok (.if_icmp .ne 13, 3) := by decide +kernel
theorem dX9_order_51 : decode cX9_order 51 = .ok (.aload_n 0, 1) := by decide +kernel
theorem dX9_order_52 : decode cX9_order 52 = .ok (.getfield 47, 3) := by decide +kernel
theorem dX9_order_55 : decode cX9_order 55 = .ok (.getfield 209, 3) := by decide +kernel
theorem dX9_order_58 : decode cX9_order 58 = .ok (.goto 12, 3) := by decide +kernel
theorem dX9_order_61 : decode cX9_order 61 = .ok (.aload_n 0, 1) := by decide +kernel
theorem dX9_order_62 : decode cX9_order 62 = .ok (.getfield 47, 3) := by decide +kernel
theorem dX9_order_65 : decode cX9_order 65 = .ok (.getfield 212, 3) := by decide +kernel
theorem dX9_order_68 : decode cX9_order 68 = .ok (.iload_n 1, 1) := by decide +kernel
theorem dX9_order_69 : decode cX9_order 69 = .ok (.iaload, 1) := by decide +kernel
theorem dX9_order_70 : decode cX9_order 70 = .ok (.ireturn, 1) := by decide +kernel
theorem dX9_cushion_0 : decode cX9_cushion 0 = .ok (.iload_n 1, 1) := by decide +kernel
theorem dX9_cushion_1 : decode cX9_cushion 1 = .ok (.iconst 0, 1) := by decide +kernel
theorem dX9_cushion_2 : decode cX9_cushion 2 = .ok (.iconst 2, 1) := by decide +kernel
theorem dX9_cushion_3 : decode cX9_cushion 3 = .ok (.invokestatic 89, 3) := by decide +kernel
theorem dX9_cushion_6 : decode cX9_cushion 6 = .ok (.ifCond .ne 5, 3) := by decide +kernel
theorem dX9_cushion_9 : decode cX9_cushion 9 = .ok (.iconst (-1), 1) := by decide +kernel
theorem dX9_cushion_10 : decode cX9_cushion 10 = .ok (.ireturn, 1) := by decide +kernel
theorem dX9_cushion_11 : decode cX9_cushion 11 = .ok (.ldc 152, 2) := by decide +kernel
theorem dX9_cushion_13 : decode cX9_cushion 13 = .ok (.istore_n 2, 1) := by decide +kernel
theorem dX9_cushion_14 : decode cX9_cushion 14 = .ok (.iconst 0, 1) := by decide +kernel
theorem dX9_cushion_15 : decode cX9_cushion 15 = .ok (.istore_n 3, 1) := by decide +kernel
theorem dX9_cushion_16 : decode cX9_cushion 16 = .ok (.iconst 0, 1) := by decide +kernel
theorem dX9_cushion_17 : decode cX9_cushion 17 = .ok (.istore 4, 2) := by decide +kernel
theorem dX9_cushion_19 : decode cX9_cushion 19 = .ok (.iconst 0, 1) := by decide +kernel
theorem dX9_cushion_20 : decode cX9_cushion 20 = .ok (.istore 5, 2) := by decide +kernel
theorem dX9_cushion_22 : decode cX9_cushion 22 = .ok (.iload 5, 2) := by decide +kernel
theorem dX9_cushion_24 : decode cX9_cushion 24 = .ok (.aload_n 0, 1) := by decide +kernel
theorem dX9_cushion_25 : decode cX9_cushion 25 = .ok (.getfield 58, 3) := by decide +kernel
theorem dX9_cushion_28 : decode cX9_cushion 28 = .ok (.getfield 104, 3) := by decide +kernel
theorem dX9_cushion_31 : decode cX9_cushion 31 = .ok (.getfield 108, 3) := by decide +kernel
theorem dX9_cushion_34 : decode cX9_cushion 34 = .ok (.if_icmp .ge 94, 3) := by decide +kernel
theorem dX9_cushion_37 : decode cX9_cushion 37 = .ok (.aload_n 0, 1) := by decide +kernel
theorem dX9_cushion_38 : decode cX9_cushion 38 = .ok (.getfield 58, 3) := by decide +kernel
theorem dX9_cushion_41 : decode cX9_cushion 41 = .ok (.getfield 104, 3) := by decide +kernel
theorem dX9_cushion_44 : decode cX9_cushion 44 = .ok (.getfield 138, 3) := by decide +kernel
theorem dX9_cushion_47 : decode cX9_cushion 47 = .ok (.iload 5, 2) := by decide +kernel
theorem dX9_cushion_49 : decode cX9_cushion 49 = .ok (.iaload, 1) := by decide +kernel
theorem dX9_cushion_50 : decode cX9_cushion 50 = .ok (.istore 6, 2) := by decide +kernel
theorem dX9_cushion_52 : decode cX9_cushion 52 = .ok (.bipush (-9), 2) := by decide +kernel
theorem dX9_cushion_54 : decode cX9_cushion 54 = .ok (.istore 7, 2) := by decide +kernel
theorem dX9_cushion_56 : decode cX9_cushion 56 = .ok (.iload 7, 2) := by decide +kernel
theorem dX9_cushion_58 : decode cX9_cushion 58 = .ok (.bipush 9, 2) := by decide +kernel
theorem dX9_cushion_60 : decode cX9_cushion 60 = .ok (.if_icmp .gt 47, 3) := by decide +kernel
theorem dX9_cushion_63 : decode cX9_cushion 63 = .ok (.aload_n 0, 1) := by decide +kernel
theorem dX9_cushion_64 : decode cX9_cushion 64 = .ok (.getfield 58, 3) := by decide +kernel
theorem dX9_cushion_67 : decode cX9_cushion 67 = .ok (.getfield 104, 3) := by decide +kernel
theorem dX9_cushion_70 : decode cX9_cushion 70 = .ok (.getfield 138, 3) := by decide +kernel
theorem dX9_cushion_73 : decode cX9_cushion 73 = .ok (.iload 5, 2) := by decide +kernel
theorem dX9_cushion_75 : decode cX9_cushion 75 = .ok (.iload 7, 2) := by decide +kernel
theorem dX9_cushion_77 : decode cX9_cushion 77 = .ok (.iastore, 1) := by decide +kernel
theorem dX9_cushion_78 : decode cX9_cushion 78 = .ok (.aload_n 0, 1) := by decide +kernel
theorem dX9_cushion_79 : decode cX9_cushion 79 = .ok (.iload_n 2, 1) := by decide +kernel
theorem dX9_cushion_80 : decode cX9_cushion 80 = .ok (.invokevirtual 215, 3) := by decide +kernel
theorem dX9_cushion_83 : decode cX9_cushion 83 = .ok (.istore 8, 2) := by decide +kernel
theorem dX9_cushion_85 : decode cX9_cushion 85 = .ok (.iload 8, 2) := by decide +kernel
theorem dX9_cushion_87 : decode cX9_cushion 87 = .ok (.iload_n 2, 1) := by decide +kernel
theorem dX9_cushion_88 : decode cX9_cushion 88 = .ok (.if_icmp .ge 13, 3) := by decide +kernel
theorem dX9_cushion_91 : decode cX9_cushion 91 = .ok (.iload 8, 2) := by decide +kernel
theorem dX9_cushion_93 : decode cX9_cushion 93 = .ok (.istore_n 2, 1) := by decide +kernel
theorem dX9_cushion_94 : decode cX9_cushion 94 = .ok (.iload 5, 2) := by decide +kernel
theorem dX9_cushion_96 : decode cX9_cushion 96 = .ok (.istore_n 3, 1) := by decide +kernel
theorem dX9_cushion_97 : decode cX9_cushion 97 = .ok (.iload 7, 2) := by decide +kernel
theorem dX9_cushion_99 : decode cX9_cushion 99 = .ok (.istore 4, 2) := by decide +kernel
theorem dX9_cushion_101 : decode cX9_cushion 101 = .ok (.iinc 7 1, 3) := by decide +kernel
theorem dX9_cushion_104 : decode cX9_cushion 104 = .ok (.goto (-48), 3) := by decide +kernel
theorem dX9_cushion_107 : decode cX9_cushion 107 = .ok (.aload_n 0, 1) := by decide +kernel
theorem dX9_cushion_108 : decode cX9_cushion 108 = .ok (.getfield 58, 3) := by decide +kernel
theorem dX9_cushion_111 : decode cX9_cushion 111 = .ok (.getfield 104, 3) := by decide +kernel
theorem dX9_cushion_114 : decode cX9_cushion 114 = .ok (.getfield 138, 3) := by decide +kernel
theorem dX9_cushion_117 : decode cX9_cushion 117 = .ok (.iload 5, 2) := by decide +kernel
theorem dX9_cushion_119 : decode cX9_cushion 119 = .ok (.iload 6, 2) := by decide +kernel
theorem dX9_cushion_121 : decode cX9_cushion 121 = .ok (.iastore, 1) := by decide +kernel
theorem dX9_cushion_122 : decode cX9_cushion 122 = .ok (.iinc 5 1, 3) := by decide +kernel
theorem dX9_cushion_125 : decode cX9_cushion 125 = .ok (.goto (-103), 3) := by decide +kernel
theorem dX9_cushion_128 : decode cX9_cushion 128 = .ok (.iload_n 1, 1) := by decide +kernel
theorem dX9_cushion_129 : decode cX9_cushion 129 = .ok (.lookupswitch 35 #[(0, 27), (1, 29)], 27) := by decide +kernel
theorem dX9_cushion_156 : decode cX9_cushion 156 = .ok (.iload_n 3, 1) := by decide +kernel
theorem dX9_cushion_157 : decode cX9_cushion 157 = .ok (.ireturn, 1) := by decide +kernel
theorem dX9_cushion_158 : decode cX9_cushion 158 = .ok (.iload 4, 2) := by decide +kernel
theorem dX9_cushion_160 : decode cX9_cushion 160 = .ok (.bipush 100, 2) := by decide +kernel
theorem dX9_cushion_162 : decode cX9_cushion 162 = .ok (.iadd, 1) := by decide +kernel
theorem dX9_cushion_163 : decode cX9_cushion 163 = .ok (.ireturn, 1) := by decide +kernel
theorem dX9_cushion_164 : decode cX9_cushion 164 = .ok (.iload_n 2, 1) := by decide +kernel
theorem dX9_cushion_165 : decode cX9_cushion 165 = .ok (.ireturn, 1) := by decide +kernel
theorem dX9_length_0 : decode cX9_length 0 = .ok (.aload_n 0, 1) := by decide +kernel
theorem dX9_length_1 : decode cX9_length 1 = .ok (.getfield 58, 3) := by decide +kernel
theorem dX9_length_4 : decode cX9_length 4 = .ok (.getfield 111, 3) := by decide +kernel
theorem dX9_length_7 : decode cX9_length 7 = .ok (.iload_n 1, 1) := by decide +kernel
theorem dX9_length_8 : decode cX9_length 8 = .ok (.invokevirtual 115, 3) := by decide +kernel
theorem dX9_length_11 : decode cX9_length 11 = .ok (.ifCond .eq 12, 3) := by decide +kernel
theorem dX9_length_14 : decode cX9_length 14 = .ok (.iload_n 2, 1) := by decide +kernel
theorem dX9_length_15 : decode cX9_length 15 = .ok (.iconst 0, 1) := by decide +kernel
theorem dX9_length_16 : decode cX9_length 16 = .ok (.iconst 1, 1) := by decide +kernel
theorem dX9_length_17 : decode cX9_length 17 = .ok (.invokestatic 89, 3) := by decide +kernel
theorem dX9_length_20 : decode cX9_length 20 = .ok (.ifCond .ne 5, 3) := by decide +kernel
theorem dX9_length_23 : decode cX9_length 23 = .ok (.iconst (-1), 1) := by decide +kernel
theorem dX9_length_24 : decode cX9_length 24 = .ok (.ireturn, 1) := by decide +kernel
theorem dX9_length_25 : decode cX9_length 25 = .ok (.aload_n 0, 1) := by decide +kernel
theorem dX9_length_26 : decode cX9_length 26 = .ok (.getfield 58, 3) := by decide +kernel
theorem dX9_length_29 : decode cX9_length 29 = .ok (.getfield 111, 3) := by decide +kernel
theorem dX9_length_32 : decode cX9_length 32 = .ok (.getfield 218, 3) := by decide +kernel
theorem dX9_length_35 : decode cX9_length 35 = .ok (.iload_n 1, 1) := by decide +kernel
theorem dX9_length_36 : decode cX9_length 36 = .ok (.iaload, 1) := by decide +kernel
theorem dX9_length_37 : decode cX9_length 37 = .ok (.istore_n 3, 1) := by decide +kernel
theorem dX9_length_38 : decode cX9_length 38 = .ok (.ldc 152, 2) := by decide +kernel
theorem dX9_length_40 : decode cX9_length 40 = .ok (.istore 4, 2) := by decide +kernel
theorem dX9_length_42 : decode cX9_length 42 = .ok (.iload_n 3, 1) := by decide +kernel
theorem dX9_length_43 : decode cX9_length 43 = .ok (.istore 5, 2) := by decide +kernel
theorem dX9_length_45 : decode cX9_length 45 = .ok (.bipush 40, 2) := by decide +kernel
theorem dX9_length_47 : decode cX9_length 47 = .ok (.istore 6, 2) := by decide +kernel
theorem dX9_length_49 : decode cX9_length 49 = .ok (.iload 6, 2) := by decide +kernel
theorem dX9_length_51 : decode cX9_length 51 = .ok (.bipush 99, 2) := by decide +kernel
theorem dX9_length_53 : decode cX9_length 53 = .ok (.if_icmp .gt 46, 3) := by decide +kernel
theorem dX9_length_56 : decode cX9_length 56 = .ok (.aload_n 0, 1) := by decide +kernel
theorem dX9_length_57 : decode cX9_length 57 = .ok (.getfield 58, 3) := by decide +kernel
theorem dX9_length_60 : decode cX9_length 60 = .ok (.getfield 111, 3) := by decide +kernel
theorem dX9_length_63 : decode cX9_length 63 = .ok (.getfield 218, 3) := by decide +kernel
theorem dX9_length_66 : decode cX9_length 66 = .ok (.iload_n 1, 1) := by decide +kernel
theorem dX9_length_67 : decode cX9_length 67 = .ok (.iload 6, 2) := by decide +kernel
theorem dX9_length_69 : decode cX9_length 69 = .ok (.iastore, 1) := by decide +kernel
theorem dX9_length_70 : decode cX9_length 70 = .ok (.aload_n 0, 1) := by decide +kernel
theorem dX9_length_71 : decode cX9_length 71 = .ok (.iload 4, 2) := by decide +kernel
theorem dX9_length_73 : decode cX9_length 73 = .ok (.invokevirtual 215, 3) := by decide +kernel
theorem dX9_length_76 : decode cX9_length 76 = .ok (.istore 7, 2) := by decide +kernel
theorem dX9_length_78 : decode cX9_length 78 = .ok (.iload 7, 2) := by decide +kernel
theorem dX9_length_80 : decode cX9_length 80 = .ok (.iload 4, 2) := by decide +kernel
theorem dX9_length_82 : decode cX9_length 82 = .ok (.if_icmp .ge 11, 3) := by decide +kernel
theorem dX9_length_85 : decode cX9_length 85 = .ok (.iload 7, 2) := by decide +kernel
theorem dX9_length_87 : decode cX9_length 87 = .ok (.istore 4, 2) := by decide +kernel
theorem dX9_length_89 : decode cX9_length 89 = .ok (.iload 6, 2) := by decide +kernel
theorem dX9_length_91 : decode cX9_length 91 = .ok (.istore 5, 2) := by decide +kernel
theorem dX9_length_93 : decode cX9_length 93 = .ok (.iinc 6 1, 3) := by decide +kernel
theorem dX9_length_96 : decode cX9_length 96 = .ok (.goto (-47), 3) := by decide +kernel
theorem dX9_length_99 : decode cX9_length 99 = .ok (.aload_n 0, 1) := by decide +kernel
theorem dX9_length_100 : decode cX9_length 100 = .ok (.getfield 58, 3) := by decide +kernel
theorem dX9_length_103 : decode cX9_length 103 = .ok (.getfield 111, 3) := by decide +kernel
theorem dX9_length_106 : decode cX9_length 106 = .ok (.getfield 218, 3) := by decide +kernel
theorem dX9_length_109 : decode cX9_length 109 = .ok (.iload_n 1, 1) := by decide +kernel
theorem dX9_length_110 : decode cX9_length 110 = .ok (.iload_n 3, 1) := by decide +kernel
theorem dX9_length_111 : decode cX9_length 111 = .ok (.iastore, 1) := by decide +kernel
theorem dX9_length_112 : decode cX9_length 112 = .ok (.iload_n 2, 1) := by decide +kernel
theorem dX9_length_113 : decode cX9_length 113 = .ok (.ifCond .ne 8, 3) := by decide +kernel
theorem dX9_length_116 : decode cX9_length 116 = .ok (.iload 5, 2) := by decide +kernel
theorem dX9_length_118 : decode cX9_length 118 = .ok (.goto 5, 3) := by decide +kernel
theorem dX9_length_121 : decode cX9_length 121 = .ok (.iload 4, 2) := by decide +kernel
theorem dX9_length_123 : decode cX9_length 123 = .ok (.ireturn, 1) := by decide +kernel
theorem dX9_law_0 : decode cX9_law 0 = .ok (.aload_n 0, 1) := by decide +kernel
theorem dX9_law_1 : decode cX9_law 1 = .ok (.getfield 58, 3) := by decide +kernel
theorem dX9_law_4 : decode cX9_law 4 = .ok (.getfield 221, 3) := by decide +kernel
theorem dX9_law_7 : decode cX9_law 7 = .ok (.istore_n 1, 1) := by decide +kernel
theorem dX9_law_8 : decode cX9_law 8 = .ok (.ldc 152, 2) := by decide +kernel
theorem dX9_law_10 : decode cX9_law 10 = .ok (.istore_n 2, 1) := by decide +kernel
theorem dX9_law_11 : decode cX9_law 11 = .ok (.iload_n 1, 1) := by decide +kernel
theorem dX9_law_12 : decode cX9_law 12 = .ok (.istore_n 3, 1) := by decide +kernel
theorem dX9_law_13 : decode cX9_law 13 = .ok (.iconst 0, 1) := by decide +kernel
theorem dX9_law_14 : decode cX9_law 14 = .ok (.istore 4, 2) := by decide +kernel
theorem dX9_law_16 : decode cX9_law 16 = .ok (.iload 4, 2) := by decide +kernel
theorem dX9_law_18 : decode cX9_law 18 = .ok (.iconst 3, 1) := by decide +kernel
theorem dX9_law_19 : decode cX9_law 19 = .ok (.if_icmp .ge 37, 3) := by decide +kernel
theorem dX9_law_22 : decode cX9_law 22 = .ok (.aload_n 0, 1) := by decide +kernel
theorem dX9_law_23 : decode cX9_law 23 = .ok (.getfield 58, 3) := by decide +kernel
theorem dX9_law_26 : decode cX9_law 26 = .ok (.iload 4, 2) := by decide +kernel
theorem dX9_law_28 : decode cX9_law 28 = .ok (.putfield 221, 3) := by decide +kernel
theorem dX9_law_31 : decode cX9_law 31 = .ok (.aload_n 0, 1) := by decide +kernel
theorem dX9_law_32 : decode cX9_law 32 = .ok (.iload_n 2, 1) := by decide +kernel
theorem dX9_law_33 : decode cX9_law 33 = .ok (.invokevirtual 215, 3) := by decide +kernel
theorem dX9_law_36 : decode cX9_law 36 = .ok (.istore 5, 2) := by decide +kernel
theorem dX9_law_38 : decode cX9_law 38 = .ok (.iload 5, 2) := by decide +kernel
theorem dX9_law_40 : decode cX9_law 40 = .ok (.iload_n 2, 1) := by decide +kernel
theorem dX9_law_41 : decode cX9_law 41 = .ok (.if_icmp .ge 9, 3) := by decide +kernel
theorem dX9_law_44 : decode cX9_law 44 = .ok (.iload 5, 2) := by decide +kernel
theorem dX9_law_46 : decode cX9_law 46 = .ok (.istore_n 2, 1) := by decide +kernel
theorem dX9_law_47 : decode cX9_law 47 = .ok (.iload 4, 2) := by decide +kernel
theorem dX9_law_49 : decode cX9_law 49 = .ok (.istore_n 3, 1) := by decide +kernel
theorem dX9_law_50 : decode cX9_law 50 = .ok (.iinc 4 1, 3) := by decide +kernel
theorem dX9_law_53 : decode cX9_law 53 = .ok (.goto (-37), 3) := by decide +kernel
theorem dX9_law_56 : decode cX9_law 56 = .ok (.aload_n 0, 1) := by decide +kernel
theorem dX9_law_57 : decode cX9_law 57 = .ok (.getfield 58, 3) := by decide +kernel
theorem dX9_law_60 : decode cX9_law 60 = .ok (.iload_n 1, 1) := by decide +kernel
theorem dX9_law_61 : decode cX9_law 61 = .ok (.putfield 221, 3) := by decide +kernel
theorem dX9_law_64 : decode cX9_law 64 = .ok (.iload_n 3, 1) := by decide +kernel
theorem dX9_law_65 : decode cX9_law 65 = .ok (.ireturn, 1) := by decide +kernel
theorem dX9_pairs_0 : decode cX9_pairs 0 = .ok (.iload_n 1, 1) := by decide +kernel
theorem dX9_pairs_1 : decode cX9_pairs 1 = .ok (.iconst 0, 1) := by decide +kernel
theorem dX9_pairs_2 : decode cX9_pairs 2 = .ok (.iconst 1, 1) := by decide +kernel
theorem dX9_pairs_3 : decode cX9_pairs 3 = .ok (.invokestatic 89, 3) := by decide +kernel
theorem dX9_pairs_6 : decode cX9_pairs 6 = .ok (.ifCond .ne 5, 3) := by decide +kernel
theorem dX9_pairs_9 : decode cX9_pairs 9 = .ok (.iconst (-1), 1) := by decide +kernel
theorem dX9_pairs_10 : decode cX9_pairs 10 = .ok (.ireturn, 1) := by decide +kernel
theorem dX9_pairs_11 : decode cX9_pairs 11 = .ok (.aload_n 0, 1) := by decide +kernel
theorem dX9_pairs_12 : decode cX9_pairs 12 = .ok (.invokevirtual 224, 3) := by decide +kernel
theorem dX9_pairs_15 : decode cX9_pairs 15 = .ok (.istore_n 2, 1) := by decide +kernel
theorem dX9_pairs_16 : decode cX9_pairs 16 = .ok (.iconst 0, 1) := by decide +kernel
theorem dX9_pairs_17 : decode cX9_pairs 17 = .ok (.istore_n 3, 1) := by decide +kernel
theorem dX9_pairs_18 : decode cX9_pairs 18 = .ok (.bipush (-4), 2) := by decide +kernel
theorem dX9_pairs_20 : decode cX9_pairs 20 = .ok (.istore 4, 2) := by decide +kernel
theorem dX9_pairs_22 : decode cX9_pairs 22 = .ok (.iconst 0, 1) := by decide +kernel
theorem dX9_pairs_23 : decode cX9_pairs 23 = .ok (.istore 5, 2) := by decide +kernel
theorem dX9_pairs_25 : decode cX9_pairs 25 = .ok (.iload 5, 2) := by decide +kernel
theorem dX9_pairs_27 : decode cX9_pairs 27 = .ok (.aload_n 0, 1) := by decide +kernel
theorem dX9_pairs_28 : decode cX9_pairs 28 = .ok (.getfield 58, 3) := by decide +kernel
theorem dX9_pairs_31 : decode cX9_pairs 31 = .ok (.getfield 104, 3) := by decide +kernel
theorem dX9_pairs_34 : decode cX9_pairs 34 = .ok (.getfield 108, 3) := by decide +kernel
theorem dX9_pairs_37 : decode cX9_pairs 37 = .ok (.if_icmp .ge 90, 3) := by decide +kernel
theorem dX9_pairs_40 : decode cX9_pairs 40 = .ok (.iload 5, 2) := by decide +kernel
theorem dX9_pairs_42 : decode cX9_pairs 42 = .ok (.iconst 1, 1) := by decide +kernel
theorem dX9_pairs_43 : decode cX9_pairs 43 = .ok (.iadd, 1) := by decide +kernel
theorem dX9_pairs_44 : decode cX9_pairs 44 = .ok (.istore 6, 2) := by decide +kernel
theorem dX9_pairs_46 : decode cX9_pairs 46 = .ok (.iload 6, 2) := by decide +kernel
theorem dX9_pairs_48 : decode cX9_pairs 48 = .ok (.aload_n 0, 1) := by decide +kernel
theorem dX9_pairs_49 : decode cX9_pairs 49 = .ok (.getfield 58, 3) := by decide +kernel
theorem dX9_pairs_52 : decode cX9_pairs 52 = .ok (.getfield 104, 3) := by decide +kernel
theorem dX9_pairs_55 : decode cX9_pairs 55 = .ok (.getfield 108, 3) := by decide +kernel
theorem dX9_pairs_58 : decode cX9_pairs 58 = .ok (.if_icmp .ge 63, 3) := by decide +kernel
theorem dX9_pairs_61 : decode cX9_pairs 61 = .ok (.iload_n 2, 1) := by decide +kernel
theorem dX9_pairs_62 : decode cX9_pairs 62 = .ok (.iload 5, 2) := by decide +kernel
theorem dX9_pairs_64 : decode cX9_pairs 64 = .ok (.invokestatic 227, 3) := by decide +kernel
theorem dX9_pairs_67 : decode cX9_pairs 67 = .ok (.ifCond .eq 48, 3) := by decide +kernel
theorem dX9_pairs_70 : decode cX9_pairs 70 = .ok (.iload_n 2, 1) := by decide +kernel
theorem dX9_pairs_71 : decode cX9_pairs 71 = .ok (.iload 6, 2) := by decide +kernel
theorem dX9_pairs_73 : decode cX9_pairs 73 = .ok (.invokestatic 227, 3) := by decide +kernel
theorem dX9_pairs_76 : decode cX9_pairs 76 = .ok (.ifCond .eq 39, 3) := by decide +kernel
theorem dX9_pairs_79 : decode cX9_pairs 79 = .ok (.aload_n 0, 1) := by decide +kernel
theorem dX9_pairs_80 : decode cX9_pairs 80 = .ok (.iload 5, 2) := by decide +kernel
theorem dX9_pairs_82 : decode cX9_pairs 82 = .ok (.iload 6, 2) := by decide +kernel
theorem dX9_pairs_84 : decode cX9_pairs 84 = .ok (.invokevirtual 231, 3) := by decide +kernel
theorem dX9_pairs_87 : decode cX9_pairs 87 = .ok (.ifCond .eq 28, 3) := by decide +kernel
theorem dX9_pairs_90 : decode cX9_pairs 90 = .ok (.iinc 3 1, 3) := by decide +kernel
theorem dX9_pairs_93 : decode cX9_pairs 93 = .ok (.iload 4, 2) := by decide +kernel
theorem dX9_pairs_95 : decode cX9_pairs 95 = .ok (.bipush (-4), 2) := by decide +kernel
theorem dX9_pairs_97 : decode cX9_pairs 97 = .ok (.if_icmp .ne 14, 3) := by decide +kernel
theorem dX9_pairs_100 : decode cX9_pairs 100 = .ok (.bipush 10, 2) := by decide +kernel
theorem dX9_pairs_102 : decode cX9_pairs 102 = .ok (.iload 5, 2) := by decide +kernel
theorem dX9_pairs_104 : decode cX9_pairs 104 = .ok (.imul, 1) := by decide +kernel
theorem dX9_pairs_105 : decode cX9_pairs 105 = .ok (.iload 6, 2) := by decide +kernel
theorem dX9_pairs_107 : decode cX9_pairs 107 = .ok (.iadd, 1) := by decide +kernel
theorem dX9_pairs_108 : decode cX9_pairs 108 = .ok (.goto 5, 3) := by decide +kernel
theorem dX9_pairs_111 : decode cX9_pairs 111 = .ok (.iload 4, 2) := by decide +kernel
theorem dX9_pairs_113 : decode cX9_pairs 113 = .ok (.istore 4, 2) := by decide +kernel
theorem dX9_pairs_115 : decode cX9_pairs 115 = .ok (.iinc 6 1, 3) := by decide +kernel
theorem dX9_pairs_118 : decode cX9_pairs 118 = .ok (.goto (-72), 3) := by decide +kernel
theorem dX9_pairs_121 : decode cX9_pairs 121 = .ok (.iinc 5 1, 3) := by decide +kernel
theorem dX9_pairs_124 : decode cX9_pairs 124 = .ok (.goto (-99), 3) := by decide +kernel
theorem dX9_pairs_127 : decode cX9_pairs 127 = .ok (.iload_n 1, 1) := by decide +kernel
theorem dX9_pairs_128 : decode cX9_pairs 128 = .ok (.ifCond .ne 7, 3) := by decide +kernel
theorem dX9_pairs_131 : decode cX9_pairs 131 = .ok (.iload_n 3, 1) := by decide +kernel
theorem dX9_pairs_132 : decode cX9_pairs 132 = .ok (.goto 5, 3) := by decide +kernel
theorem dX9_pairs_135 : decode cX9_pairs 135 = .ok (.iload 4, 2) := by decide +kernel
theorem dX9_pairs_137 : decode cX9_pairs 137 = .ok (.ireturn, 1) := by decide +kernel
theorem dX9_later_0 : decode cX9_later 0 = .ok (.aload_n 0, 1) := by decide +kernel
theorem dX9_later_1 : decode cX9_later 1 = .ok (.getfield 58, 3) := by decide +kernel
theorem dX9_later_4 : decode cX9_later 4 = .ok (.getfield 104, 3) := by decide +kernel
theorem dX9_later_7 : decode cX9_later 7 = .ok (.iload_n 1, 1) := by decide +kernel
theorem dX9_later_8 : decode cX9_later 8 = .ok (.invokevirtual 128, 3) := by decide +kernel
theorem dX9_later_11 : decode cX9_later 11 = .ok (.ifCond .eq 12, 3) := by decide +kernel
theorem dX9_later_14 : decode cX9_later 14 = .ok (.iload_n 2, 1) := by decide +kernel
theorem dX9_later_15 : decode cX9_later 15 = .ok (.iconst 0, 1) := by decide +kernel
theorem dX9_later_16 : decode cX9_later 16 = .ok (.iconst 1, 1) := by decide +kernel
theorem dX9_later_17 : decode cX9_later 17 = .ok (.invokestatic 89, 3) := by decide +kernel
theorem dX9_later_20 : decode cX9_later 20 = .ok (.ifCond .ne 5, 3) := by decide +kernel
theorem dX9_later_23 : decode cX9_later 23 = .ok (.iconst (-1), 1) := by decide +kernel
theorem dX9_later_24 : decode cX9_later 24 = .ok (.ireturn, 1) := by decide +kernel
theorem dX9_later_25 : decode cX9_later 25 = .ok (.aload_n 0, 1) := by decide +kernel
theorem dX9_later_26 : decode cX9_later 26 = .ok (.getfield 58, 3) := by decide +kernel
theorem dX9_later_29 : decode cX9_later 29 = .ok (.getfield 104, 3) := by decide +kernel
theorem dX9_later_32 : decode cX9_later 32 = .ok (.getfield 132, 3) := by decide +kernel
theorem dX9_later_35 : decode cX9_later 35 = .ok (.iload_n 1, 1) := by decide +kernel
theorem dX9_later_36 : decode cX9_later 36 = .ok (.iaload, 1) := by decide +kernel
theorem dX9_later_37 : decode cX9_later 37 = .ok (.istore_n 3, 1) := by decide +kernel
theorem dX9_later_38 : decode cX9_later 38 = .ok (.ldc 152, 2) := by decide +kernel
theorem dX9_later_40 : decode cX9_later 40 = .ok (.istore 4, 2) := by decide +kernel
theorem dX9_later_42 : decode cX9_later 42 = .ok (.bipush (-4), 2) := by decide +kernel
theorem dX9_later_44 : decode cX9_later 44 = .ok (.istore 5, 2) := by decide +kernel
theorem dX9_later_46 : decode cX9_later 46 = .ok (.iconst 0, 1) := by decide +kernel
theorem dX9_later_47 : decode cX9_later 47 = .ok (.istore 6, 2) := by decide +kernel
theorem dX9_later_49 : decode cX9_later 49 = .ok (.iload 6, 2) := by decide +kernel
theorem dX9_later_51 : decode cX9_later 51 = .ok (.bipush 9, 2) := by decide +kernel
theorem dX9_later_53 : decode cX9_later 53 = .ok (.if_icmp .gt 78, 3) := by decide +kernel
theorem dX9_later_56 : decode cX9_later 56 = .ok (.aload_n 0, 1) := by decide +kernel
theorem dX9_later_57 : decode cX9_later 57 = .ok (.getfield 58, 3) := by decide +kernel
theorem dX9_later_60 : decode cX9_later 60 = .ok (.getfield 104, 3) := by decide +kernel
theorem dX9_later_63 : decode cX9_later 63 = .ok (.getfield 132, 3) := by decide +kernel
theorem dX9_later_66 : decode cX9_later 66 = .ok (.iload_n 1, 1) := by decide +kernel
theorem dX9_later_67 : decode cX9_later 67 = .ok (.iload_n 3, 1) := by decide +kernel
theorem dX9_later_68 : decode cX9_later 68 = .ok (.iload 6, 2) := by decide +kernel
theorem dX9_later_70 : decode cX9_later 70 = .ok (.iadd, 1) := by decide +kernel
theorem dX9_later_71 : decode cX9_later 71 = .ok (.iastore, 1) := by decide +kernel
theorem dX9_later_72 : decode cX9_later 72 = .ok (.aload_n 0, 1) := by decide +kernel
theorem dX9_later_73 : decode cX9_later 73 = .ok (.getfield 19, 3) := by decide +kernel
theorem dX9_later_76 : decode cX9_later 76 = .ok (.aload_n 0, 1) := by decide +kernel
theorem dX9_later_77 : decode cX9_later 77 = .ok (.getfield 58, 3) := by decide +kernel
theorem dX9_later_80 : decode cX9_later 80 = .ok (.ldc 152, 2) := by decide +kernel
theorem dX9_later_82 : decode cX9_later 82 = .ok (.invokevirtual 153, 3) := by decide +kernel
theorem dX9_later_85 : decode cX9_later 85 = .ok (.aload_n 0, 1) := by decide +kernel
theorem dX9_later_86 : decode cX9_later 86 = .ok (.getfield 19, 3) := by decide +kernel
theorem dX9_later_89 : decode cX9_later 89 = .ok (.iload_n 1, 1) := by decide +kernel
theorem dX9_later_90 : decode cX9_later 90 = .ok (.invokevirtual 157, 3) := by decide +kernel
theorem dX9_later_93 : decode cX9_later 93 = .ok (.ifCond .eq 32, 3) := by decide +kernel
theorem dX9_later_96 : decode cX9_later 96 = .ok (.aload_n 0, 1) := by decide +kernel
theorem dX9_later_97 : decode cX9_later 97 = .ok (.getfield 19, 3) := by decide +kernel
theorem dX9_later_100 : decode cX9_later 100 = .ok (.getfield 166, 3) := by decide +kernel
theorem dX9_later_103 : decode cX9_later 103 = .ok (.iload_n 1, 1) := by decide +kernel
theorem dX9_later_104 : decode cX9_later 104 = .ok (.iaload, 1) := by decide +kernel
theorem dX9_later_105 : decode cX9_later 105 = .ok (.iload 4, 2) := by decide +kernel
theorem dX9_later_107 : decode cX9_later 107 = .ok (.if_icmp .ge 18, 3) := by decide +kernel
theorem dX9_later_110 : decode cX9_later 110 = .ok (.aload_n 0, 1) := by decide +kernel
theorem dX9_later_111 : decode cX9_later 111 = .ok (.getfield 19, 3) := by decide +kernel
theorem dX9_later_114 : decode cX9_later 114 = .ok (.getfield 166, 3) := by decide +kernel
theorem dX9_later_117 : decode cX9_later 117 = .ok (.iload_n 1, 1) := by decide +kernel
theorem dX9_later_118 : decode cX9_later 118 = .ok (.iaload, 1) := by decide +kernel
theorem dX9_later_119 : decode cX9_later 119 = .ok (.istore 4, 2) := by decide +kernel
theorem dX9_later_121 : decode cX9_later 121 = .ok (.iload 6, 2) := by decide +kernel
theorem dX9_later_123 : decode cX9_later 123 = .ok (.istore 5, 2) := by decide +kernel
theorem dX9_later_125 : decode cX9_later 125 = .ok (.iinc 6 1, 3) := by decide +kernel
theorem dX9_later_128 : decode cX9_later 128 = .ok (.goto (-79), 3) := by decide +kernel
theorem dX9_later_131 : decode cX9_later 131 = .ok (.aload_n 0, 1) := by decide +kernel
theorem dX9_later_132 : decode cX9_later 132 = .ok (.getfield 58, 3) := by decide +kernel
theorem dX9_later_135 : decode cX9_later 135 = .ok (.getfield 104, 3) := by decide +kernel
theorem dX9_later_138 : decode cX9_later 138 = .ok (.getfield 132, 3) := by decide +kernel
theorem dX9_later_141 : decode cX9_later 141 = .ok (.iload_n 1, 1) := by decide +kernel
theorem dX9_later_142 : decode cX9_later 142 = .ok (.iload_n 3, 1) := by decide +kernel
theorem dX9_later_143 : decode cX9_later 143 = .ok (.iastore, 1) := by decide +kernel
theorem dX9_later_144 : decode cX9_later 144 = .ok (.iload 5, 2) := by decide +kernel
theorem dX9_later_146 : decode cX9_later 146 = .ok (.bipush (-4), 2) := by decide +kernel
theorem dX9_later_148 : decode cX9_later 148 = .ok (.if_icmp .ne 6, 3) := by decide +kernel
theorem dX9_later_151 : decode cX9_later 151 = .ok (.bipush (-4), 2) := by decide +kernel
theorem dX9_later_153 : decode cX9_later 153 = .ok (.ireturn, 1) := by decide +kernel
theorem dX9_later_154 : decode cX9_later 154 = .ok (.iload_n 2, 1) := by decide +kernel
theorem dX9_later_155 : decode cX9_later 155 = .ok (.ifCond .ne 8, 3) := by decide +kernel
theorem dX9_later_158 : decode cX9_later 158 = .ok (.iload 5, 2) := by decide +kernel
theorem dX9_later_160 : decode cX9_later 160 = .ok (.goto 5, 3) := by decide +kernel
theorem dX9_later_163 : decode cX9_later 163 = .ok (.iload 4, 2) := by decide +kernel
theorem dX9_later_165 : decode cX9_later 165 = .ok (.ireturn, 1) := by decide +kernel
theorem dX9_rival_0 : decode cX9_rival 0 = .ok (.aload_n 0, 1) := by decide +kernel
theorem dX9_rival_1 : decode cX9_rival 1 = .ok (.getfield 19, 3) := by decide +kernel
theorem dX9_rival_4 : decode cX9_rival 4 = .ok (.aload_n 0, 1) := by decide +kernel
theorem dX9_rival_5 : decode cX9_rival 5 = .ok (.getfield 58, 3) := by decide +kernel
theorem dX9_rival_8 : decode cX9_rival 8 = .ok (.ldc 152, 2) := by decide +kernel
theorem dX9_rival_10 : decode cX9_rival 10 = .ok (.invokevirtual 153, 3) := by decide +kernel
theorem dX9_rival_13 : decode cX9_rival 13 = .ok (.iconst 0, 1) := by decide +kernel
theorem dX9_rival_14 : decode cX9_rival 14 = .ok (.istore_n 1, 1) := by decide +kernel
theorem dX9_rival_15 : decode cX9_rival 15 = .ok (.iconst 0, 1) := by decide +kernel
theorem dX9_rival_16 : decode cX9_rival 16 = .ok (.istore_n 2, 1) := by decide +kernel
theorem dX9_rival_17 : decode cX9_rival 17 = .ok (.iload_n 2, 1) := by decide +kernel
theorem dX9_rival_18 : decode cX9_rival 18 = .ok (.aload_n 0, 1) := by decide +kernel
theorem dX9_rival_19 : decode cX9_rival 19 = .ok (.getfield 58, 3) := by decide +kernel
theorem dX9_rival_22 : decode cX9_rival 22 = .ok (.getfield 104, 3) := by decide +kernel
theorem dX9_rival_25 : decode cX9_rival 25 = .ok (.getfield 108, 3) := by decide +kernel
theorem dX9_rival_28 : decode cX9_rival 28 = .ok (.if_icmp .ge 53, 3) := by decide +kernel
theorem dX9_rival_31 : decode cX9_rival 31 = .ok (.aload_n 0, 1) := by decide +kernel
theorem dX9_rival_32 : decode cX9_rival 32 = .ok (.getfield 19, 3) := by decide +kernel
theorem dX9_rival_35 : decode cX9_rival 35 = .ok (.iload_n 2, 1) := by decide +kernel
theorem dX9_rival_36 : decode cX9_rival 36 = .ok (.invokevirtual 157, 3) := by decide +kernel
theorem dX9_rival_39 : decode cX9_rival 39 = .ok (.ifCond .eq 15, 3) := by decide +kernel
theorem dX9_rival_42 : decode cX9_rival 42 = .ok (.aload_n 0, 1) := by decide +kernel
theorem dX9_rival_43 : decode cX9_rival 43 = .ok (.getfield 19, 3) := by decide +kernel
theorem dX9_rival_46 : decode cX9_rival 46 = .ok (.getfield 166, 3) := by decide +kernel
theorem dX9_rival_49 : decode cX9_rival 49 = .ok (.iload_n 2, 1) := by decide +kernel
theorem dX9_rival_50 : decode cX9_rival 50 = .ok (.iaload, 1) := by decide +kernel
theorem dX9_rival_51 : decode cX9_rival 51 = .ok (.goto 5, 3) := by decide +kernel
theorem dX9_rival_54 : decode cX9_rival 54 = .ok (.bipush 50, 2) := by decide +kernel
theorem dX9_rival_56 : decode cX9_rival 56 = .ok (.istore_n 3, 1) := by decide +kernel
theorem dX9_rival_57 : decode cX9_rival 57 = .ok (.aload_n 0, 1) := by decide +kernel
theorem dX9_rival_58 : decode cX9_rival 58 = .ok (.getfield 58, 3) := by decide +kernel
theorem dX9_rival_61 : decode cX9_rival 61 = .ok (.iload_n 2, 1) := by decide +kernel
theorem dX9_rival_62 : decode cX9_rival 62 = .ok (.invokevirtual 234, 3) := by decide +kernel
theorem dX9_rival_65 : decode cX9_rival 65 = .ok (.iload_n 3, 1) := by decide +kernel
theorem dX9_rival_66 : decode cX9_rival 66 = .ok (.if_icmp .ge 9, 3) := by decide +kernel
theorem dX9_rival_69 : decode cX9_rival 69 = .ok (.iload_n 1, 1) := by decide +kernel
theorem dX9_rival_70 : decode cX9_rival 70 = .ok (.iconst 1, 1) := by decide +kernel
theorem dX9_rival_71 : decode cX9_rival 71 = .ok (.iload_n 2, 1) := by decide +kernel
theorem dX9_rival_72 : decode cX9_rival 72 = .ok (.ishl, 1) := by decide +kernel
theorem dX9_rival_73 : decode cX9_rival 73 = .ok (.ior, 1) := by decide +kernel
theorem dX9_rival_74 : decode cX9_rival 74 = .ok (.istore_n 1, 1) := by decide +kernel
theorem dX9_rival_75 : decode cX9_rival 75 = .ok (.iinc 2 1, 3) := by decide +kernel
theorem dX9_rival_78 : decode cX9_rival 78 = .ok (.goto (-61), 3) := by decide +kernel
theorem dX9_rival_81 : decode cX9_rival 81 = .ok (.iload_n 1, 1) := by decide +kernel
theorem dX9_rival_82 : decode cX9_rival 82 = .ok (.ireturn, 1) := by decide +kernel
theorem dX9_fewest_0 : decode cX9_fewest 0 = .ok (.iload_n 1, 1) := by decide +kernel
theorem dX9_fewest_1 : decode cX9_fewest 1 = .ok (.invokestatic 121, 3) := by decide +kernel
theorem dX9_fewest_4 : decode cX9_fewest 4 = .ok (.ifCond .ne 5, 3) := by decide +kernel
theorem dX9_fewest_7 : decode cX9_fewest 7 = .ok (.iconst (-1), 1) := by decide +kernel
theorem dX9_fewest_8 : decode cX9_fewest 8 = .ok (.ireturn, 1) := by decide +kernel
theorem dX9_fewest_9 : decode cX9_fewest 9 = .ok (.bipush (-4), 2) := by decide +kernel
theorem dX9_fewest_11 : decode cX9_fewest 11 = .ok (.istore_n 2, 1) := by decide +kernel
theorem dX9_fewest_12 : decode cX9_fewest 12 = .ok (.iconst 1, 1) := by decide +kernel
theorem dX9_fewest_13 : decode cX9_fewest 13 = .ok (.istore_n 3, 1) := by decide +kernel
theorem dX9_fewest_14 : decode cX9_fewest 14 = .ok (.iload_n 3, 1) := by decide +kernel
theorem dX9_fewest_15 : decode cX9_fewest 15 = .ok (.aload_n 0, 1) := by decide +kernel
theorem dX9_fewest_16 : decode cX9_fewest 16 = .ok (.getfield 58, 3) := by decide +kernel
theorem dX9_fewest_19 : decode cX9_fewest 19 = .ok (.getfield 111, 3) := by decide +kernel
theorem dX9_fewest_22 : decode cX9_fewest 22 = .ok (.getfield 237, 3) := by decide +kernel
theorem dX9_fewest_25 : decode cX9_fewest 25 = .ok (.if_icmp .gt 59, 3) := by decide +kernel
theorem dX9_fewest_28 : decode cX9_fewest 28 = .ok (.iload_n 2, 1) := by decide +kernel
theorem dX9_fewest_29 : decode cX9_fewest 29 = .ok (.bipush (-4), 2) := by decide +kernel
theorem dX9_fewest_31 : decode cX9_fewest 31 = .ok (.if_icmp .ne 53, 3) := by decide +kernel
theorem dX9_fewest_34 : decode cX9_fewest 34 = .ok (.aload_n 0, 1) := by decide +kernel
theorem dX9_fewest_35 : decode cX9_fewest 35 = .ok (.getfield 58, 3) := by decide +kernel
theorem dX9_fewest_38 : decode cX9_fewest 38 = .ok (.getfield 111, 3) := by decide +kernel
theorem dX9_fewest_41 : decode cX9_fewest 41 = .ok (.iload_n 3, 1) := by decide +kernel
theorem dX9_fewest_42 : decode cX9_fewest 42 = .ok (.putfield 238, 3) := by decide +kernel
theorem dX9_fewest_45 : decode cX9_fewest 45 = .ok (.aload_n 0, 1) := by decide +kernel
theorem dX9_fewest_46 : decode cX9_fewest 46 = .ok (.getfield 19, 3) := by decide +kernel
theorem dX9_fewest_49 : decode cX9_fewest 49 = .ok (.aload_n 0, 1) := by decide +kernel
theorem dX9_fewest_50 : decode cX9_fewest 50 = .ok (.getfield 58, 3) := by decide +kernel
theorem dX9_fewest_53 : decode cX9_fewest 53 = .ok (.ldc 152, 2) := by decide +kernel
theorem dX9_fewest_55 : decode cX9_fewest 55 = .ok (.invokevirtual 153, 3) := by decide +kernel
theorem dX9_fewest_58 : decode cX9_fewest 58 = .ok (.aload_n 0, 1) := by decide +kernel
theorem dX9_fewest_59 : decode cX9_fewest 59 = .ok (.getfield 19, 3) := by decide +kernel
theorem dX9_fewest_62 : decode cX9_fewest 62 = .ok (.aload_n 0, 1) := by decide +kernel
theorem dX9_fewest_63 : decode cX9_fewest 63 = .ok (.getfield 58, 3) := by decide +kernel
theorem dX9_fewest_66 : decode cX9_fewest 66 = .ok (.getfield 104, 3) := by decide +kernel
theorem dX9_fewest_69 : decode cX9_fewest 69 = .ok (.iload_n 1, 1) := by decide +kernel
theorem dX9_fewest_70 : decode cX9_fewest 70 = .ok (.invokevirtual 241, 3) := by decide +kernel
theorem dX9_fewest_73 : decode cX9_fewest 73 = .ok (.ifCond .eq 5, 3) := by decide +kernel
theorem dX9_fewest_76 : decode cX9_fewest 76 = .ok (.iload_n 3, 1) := by decide +kernel
theorem dX9_fewest_77 : decode cX9_fewest 77 = .ok (.istore_n 2, 1) := by decide +kernel
theorem dX9_fewest_78 : decode cX9_fewest 78 = .ok (.iinc 3 1, 3) := by decide +kernel
theorem dX9_fewest_81 : decode cX9_fewest 81 = .ok (.goto (-67), 3) := by decide +kernel
theorem dX9_fewest_84 : decode cX9_fewest 84 = .ok (.aload_n 0, 1) := by decide +kernel
theorem dX9_fewest_85 : decode cX9_fewest 85 = .ok (.getfield 58, 3) := by decide +kernel
theorem dX9_fewest_88 : decode cX9_fewest 88 = .ok (.getfield 111, 3) := by decide +kernel
theorem dX9_fewest_91 : decode cX9_fewest 91 = .ok (.aload_n 0, 1) := by decide +kernel
theorem dX9_fewest_92 : decode cX9_fewest 92 = .ok (.getfield 58, 3) := by decide +kernel
theorem dX9_fewest_95 : decode cX9_fewest 95 = .ok (.getfield 111, 3) := by decide +kernel
theorem dX9_fewest_98 : decode cX9_fewest 98 = .ok (.getfield 237, 3) := by decide +kernel
theorem dX9_fewest_101 : decode cX9_fewest 101 = .ok (.putfield 238, 3) := by decide +kernel
theorem dX9_fewest_104 : decode cX9_fewest 104 = .ok (.iload_n 2, 1) := by decide +kernel
theorem dX9_fewest_105 : decode cX9_fewest 105 = .ok (.ireturn, 1) := by decide +kernel
theorem dX9_turned_0 : decode cX9_turned 0 = .ok (.aload_n 0, 1) := by decide +kernel
theorem dX9_turned_1 : decode cX9_turned 1 = .ok (.getfield 58, 3) := by decide +kernel
theorem dX9_turned_4 : decode cX9_turned 4 = .ok (.getfield 111, 3) := by decide +kernel
theorem dX9_turned_7 : decode cX9_turned 7 = .ok (.iconst 1, 1) := by decide +kernel
theorem dX9_turned_8 : decode cX9_turned 8 = .ok (.putfield 245, 3) := by decide +kernel
theorem dX9_turned_11 : decode cX9_turned 11 = .ok (.aload_n 0, 1) := by decide +kernel
theorem dX9_turned_12 : decode cX9_turned 12 = .ok (.ldc 152, 2) := by decide +kernel
theorem dX9_turned_14 : decode cX9_turned 14 = .ok (.invokevirtual 215, 3) := by decide +kernel
theorem dX9_turned_17 : decode cX9_turned 17 = .ok (.istore_n 1, 1) := by decide +kernel
theorem dX9_turned_18 : decode cX9_turned 18 = .ok (.aload_n 0, 1) := by decide +kernel
theorem dX9_turned_19 : decode cX9_turned 19 = .ok (.getfield 58, 3) := by decide +kernel
theorem dX9_turned_22 : decode cX9_turned 22 = .ok (.getfield 111, 3) := by decide +kernel
theorem dX9_turned_25 : decode cX9_turned 25 = .ok (.iconst 0, 1) := by decide +kernel
theorem dX9_turned_26 : decode cX9_turned 26 = .ok (.putfield 245, 3) := by decide +kernel
theorem dX9_turned_29 : decode cX9_turned 29 = .ok (.iload_n 1, 1) := by decide +kernel
theorem dX9_turned_30 : decode cX9_turned 30 = .ok (.ireturn, 1) := by decide +kernel
theorem dX9_left_0 : decode cX9_left 0 = .ok (.aload_n 0, 1) := by decide +kernel
theorem dX9_left_1 : decode cX9_left 1 = .ok (.getfield 58, 3) := by decide +kernel
theorem dX9_left_4 : decode cX9_left 4 = .ok (.getfield 111, 3) := by decide +kernel
theorem dX9_left_7 : decode cX9_left 7 = .ok (.iload_n 1, 1) := by decide +kernel
theorem dX9_left_8 : decode cX9_left 8 = .ok (.invokevirtual 115, 3) := by decide +kernel
theorem dX9_left_11 : decode cX9_left 11 = .ok (.ifCond .eq 20, 3) := by decide +kernel
theorem dX9_left_14 : decode cX9_left 14 = .ok (.iload_n 2, 1) := by decide +kernel
theorem dX9_left_15 : decode cX9_left 15 = .ok (.invokestatic 121, 3) := by decide +kernel
theorem dX9_left_18 : decode cX9_left 18 = .ok (.ifCond .eq 13, 3) := by decide +kernel
theorem dX9_left_21 : decode cX9_left 21 = .ok (.iload_n 3, 1) := by decide +kernel
theorem dX9_left_22 : decode cX9_left 22 = .ok (.iconst 0, 1) := by decide +kernel
theorem dX9_left_23 : decode cX9_left 23 = .ok (.bipush 99, 2) := by decide +kernel
theorem dX9_left_25 : decode cX9_left 25 = .ok (.invokestatic 89, 3) := by decide +kernel
theorem dX9_left_28 : decode cX9_left 28 = .ok (.ifCond .ne 5, 3) := by decide +kernel
