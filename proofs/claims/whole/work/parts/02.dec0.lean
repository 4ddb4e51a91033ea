theorem dX0_init_0 : decode cX0_init 0 = .ok (.aload_n 0, 1) := by decide +kernel
theorem dX0_init_1 : decode cX0_init 1 = .ok (.invokespecial 3, 3) := by decide +kernel
theorem dX0_init_4 : decode cX0_init 4 = .ok (.aload_n 0, 1) := by decide +kernel
theorem dX0_init_5 : decode cX0_init 5 = .ok (.iconst 4, 1) := by decide +kernel
theorem dX0_init_6 : decode cX0_init 6 = .ok (.newarray .int, 2) := by decide +kernel
theorem dX0_init_8 : decode cX0_init 8 = .ok (.putfield 9, 3) := by decide +kernel
theorem dX0_init_11 : decode cX0_init 11 = .ok (.aload_n 0, 1) := by decide +kernel
theorem dX0_init_12 : decode cX0_init 12 = .ok (.bipush 30, 2) := by decide +kernel
theorem dX0_init_14 : decode cX0_init 14 = .ok (.newarray .int, 2) := by decide +kernel
theorem dX0_init_16 : decode cX0_init 16 = .ok (.putfield 15, 3) := by decide +kernel
theorem dX0_init_19 : decode cX0_init 19 = .ok (.aload_n 0, 1) := by decide +kernel
theorem dX0_init_20 : decode cX0_init 20 = .ok (.iconst (-1), 1) := by decide +kernel
theorem dX0_init_21 : decode cX0_init 21 = .ok (.putfield 18, 3) := by decide +kernel
theorem dX0_init_24 : decode cX0_init 24 = .ok (.return_, 1) := by decide +kernel
theorem dX0_clear_0 : decode cX0_clear 0 = .ok (.aload_n 0, 1) := by decide +kernel
theorem dX0_clear_1 : decode cX0_clear 1 = .ok (.iconst 0, 1) := by decide +kernel
theorem dX0_clear_2 : decode cX0_clear 2 = .ok (.putfield 22, 3) := by decide +kernel
theorem dX0_clear_5 : decode cX0_clear 5 = .ok (.aload_n 0, 1) := by decide +kernel
theorem dX0_clear_6 : decode cX0_clear 6 = .ok (.iconst 0, 1) := by decide +kernel
theorem dX0_clear_7 : decode cX0_clear 7 = .ok (.putfield 25, 3) := by decide +kernel
theorem dX0_clear_10 : decode cX0_clear 10 = .ok (.aload_n 0, 1) := by decide +kernel
theorem dX0_clear_11 : decode cX0_clear 11 = .ok (.iconst 0, 1) := by decide +kernel
theorem dX0_clear_12 : decode cX0_clear 12 = .ok (.putfield 28, 3) := by decide +kernel
theorem dX0_clear_15 : decode cX0_clear 15 = .ok (.iconst 0, 1) := by decide +kernel
theorem dX0_clear_16 : decode cX0_clear 16 = .ok (.istore_n 1, 1) := by decide +kernel
theorem dX0_clear_17 : decode cX0_clear 17 = .ok (.iload_n 1, 1) := by decide +kernel
theorem dX0_clear_18 : decode cX0_clear 18 = .ok (.bipush 30, 2) := by decide +kernel
theorem dX0_clear_20 : decode cX0_clear 20 = .ok (.if_icmp .ge 16, 3) := by decide +kernel
theorem dX0_clear_23 : decode cX0_clear 23 = .ok (.aload_n 0, 1) := by decide +kernel
theorem dX0_clear_24 : decode cX0_clear 24 = .ok (.getfield 15, 3) := by decide +kernel
theorem dX0_clear_27 : decode cX0_clear 27 = .ok (.iload_n 1, 1) := by decide +kernel
theorem dX0_clear_28 : decode cX0_clear 28 = .ok (.iconst 0, 1) := by decide +kernel
theorem dX0_clear_29 : decode cX0_clear 29 = .ok (.iastore, 1) := by decide +kernel
theorem dX0_clear_30 : decode cX0_clear 30 = .ok (.iinc 1 1, 3) := by decide +kernel
theorem dX0_clear_33 : decode cX0_clear 33 = .ok (.goto (-16), 3) := by decide +kernel
theorem dX0_clear_36 : decode cX0_clear 36 = .ok (.return_, 1) := by decide +kernel
theorem dX0_has_0 : decode cX0_has 0 = .ok (.iload_n 1, 1) := by decide +kernel
theorem dX0_has_1 : decode cX0_has 1 = .ok (.ifCond .lt 15, 3) := by decide +kernel
theorem dX0_has_4 : decode cX0_has 4 = .ok (.iload_n 1, 1) := by decide +kernel
theorem dX0_has_5 : decode cX0_has 5 = .ok (.aload_n 0, 1) := by decide +kernel
theorem dX0_has_6 : decode cX0_has 6 = .ok (.getfield 22, 3) := by decide +kernel
theorem dX0_has_9 : decode cX0_has 9 = .ok (.if_icmp .ge 7, 3) := by decide +kernel
theorem dX0_has_12 : decode cX0_has 12 = .ok (.iconst 1, 1) := by decide +kernel
theorem dX0_has_13 : decode cX0_has 13 = .ok (.goto 4, 3) := by decide +kernel
theorem dX0_has_16 : decode cX0_has 16 = .ok (.iconst 0, 1) := by decide +kernel
theorem dX0_has_17 : decode cX0_has 17 = .ok (.ireturn, 1) := by decide +kernel
theorem dX0_add_0 : decode cX0_add 0 = .ok (.aload_n 0, 1) := by decide +kernel
theorem dX0_add_1 : decode cX0_add 1 = .ok (.getfield 22, 3) := by decide +kernel
theorem dX0_add_4 : decode cX0_add 4 = .ok (.iconst 4, 1) := by decide +kernel
theorem dX0_add_5 : decode cX0_add 5 = .ok (.if_icmp .lt 5, 3) := by decide +kernel
theorem dX0_add_8 : decode cX0_add 8 = .ok (.iconst 0, 1) := by decide +kernel
theorem dX0_add_9 : decode cX0_add 9 = .ok (.ireturn, 1) := by decide +kernel
theorem dX0_add_10 : decode cX0_add 10 = .ok (.aload_n 0, 1) := by decide +kernel
theorem dX0_add_11 : decode cX0_add 11 = .ok (.getfield 9, 3) := by decide +kernel
theorem dX0_add_14 : decode cX0_add 14 = .ok (.aload_n 0, 1) := by decide +kernel
theorem dX0_add_15 : decode cX0_add 15 = .ok (.getfield 22, 3) := by decide +kernel
theorem dX0_add_18 : decode cX0_add 18 = .ok (.iload_n 1, 1) := by decide +kernel
theorem dX0_add_19 : decode cX0_add 19 = .ok (.iastore, 1) := by decide +kernel
theorem dX0_add_20 : decode cX0_add 20 = .ok (.aload_n 0, 1) := by decide +kernel
theorem dX0_add_21 : decode cX0_add 21 = .ok (.dup, 1) := by decide +kernel
theorem dX0_add_22 : decode cX0_add 22 = .ok (.getfield 22, 3) := by decide +kernel
theorem dX0_add_25 : decode cX0_add 25 = .ok (.iconst 1, 1) := by decide +kernel
theorem dX0_add_26 : decode cX0_add 26 = .ok (.iadd, 1) := by decide +kernel
theorem dX0_add_27 : decode cX0_add 27 = .ok (.putfield 22, 3) := by decide +kernel
theorem dX0_add_30 : decode cX0_add 30 = .ok (.aload_n 0, 1) := by decide +kernel
theorem dX0_add_31 : decode cX0_add 31 = .ok (.aload_n 0, 1) := by decide +kernel
theorem dX0_add_32 : decode cX0_add 32 = .ok (.getfield 22, 3) := by decide +kernel
theorem dX0_add_35 : decode cX0_add 35 = .ok (.putfield 25, 3) := by decide +kernel
theorem dX0_add_38 : decode cX0_add 38 = .ok (.iconst 1, 1) := by decide +kernel
theorem dX0_add_39 : decode cX0_add 39 = .ok (.ireturn, 1) := by decide +kernel
theorem dX0_addFeast_0 : decode cX0_addFeast 0 = .ok (.aload_n 0, 1) := by decide +kernel
theorem dX0_addFeast_1 : decode cX0_addFeast 1 = .ok (.getfield 28, 3) := by decide +kernel
theorem dX0_addFeast_4 : decode cX0_addFeast 4 = .ok (.iconst 4, 1) := by decide +kernel
theorem dX0_addFeast_5 : decode cX0_addFeast 5 = .ok (.if_icmp .ge 10, 3) := by decide +kernel
theorem dX0_addFeast_8 : decode cX0_addFeast 8 = .ok (.iload_n 1, 1) := by decide +kernel
theorem dX0_addFeast_9 : decode cX0_addFeast 9 = .ok (.invokestatic 31, 3) := by decide +kernel
theorem dX0_addFeast_12 : decode cX0_addFeast 12 = .ok (.ifCond .ne 5, 3) := by decide +kernel
theorem dX0_addFeast_15 : decode cX0_addFeast 15 = .ok (.iconst 0, 1) := by decide +kernel
theorem dX0_addFeast_16 : decode cX0_addFeast 16 = .ok (.ireturn, 1) := by decide +kernel
theorem dX0_addFeast_17 : decode cX0_addFeast 17 = .ok (.aload_n 0, 1) := by decide +kernel
theorem dX0_addFeast_18 : decode cX0_addFeast 18 = .ok (.getfield 15, 3) := by decide +kernel
theorem dX0_addFeast_21 : decode cX0_addFeast 21 = .ok (.iload_n 1, 1) := by decide +kernel
theorem dX0_addFeast_22 : decode cX0_addFeast 22 = .ok (.dup2, 1) := by decide +kernel
theorem dX0_addFeast_23 : decode cX0_addFeast 23 = .ok (.iaload, 1) := by decide +kernel
theorem dX0_addFeast_24 : decode cX0_addFeast 24 = .ok (.iload_n 2, 1) := by decide +kernel
theorem dX0_addFeast_25 : decode cX0_addFeast 25 = .ok (.iadd, 1) := by decide +kernel
theorem dX0_addFeast_26 : decode cX0_addFeast 26 = .ok (.iastore, 1) := by decide +kernel
theorem dX0_addFeast_27 : decode cX0_addFeast 27 = .ok (.aload_n 0, 1) := by decide +kernel
theorem dX0_addFeast_28 : decode cX0_addFeast 28 = .ok (.dup, 1) := by decide +kernel
theorem dX0_addFeast_29 : decode cX0_addFeast 29 = .ok (.getfield 28, 3) := by decide +kernel
theorem dX0_addFeast_32 : decode cX0_addFeast 32 = .ok (.iconst 1, 1) := by decide +kernel
theorem dX0_addFeast_33 : decode cX0_addFeast 33 = .ok (.iadd, 1) := by decide +kernel
theorem dX0_addFeast_34 : decode cX0_addFeast 34 = .ok (.putfield 28, 3) := by decide +kernel
theorem dX0_addFeast_37 : decode cX0_addFeast 37 = .ok (.iconst 1, 1) := by decide +kernel
theorem dX0_addFeast_38 : decode cX0_addFeast 38 = .ok (.ireturn, 1) := by decide +kernel
theorem dX0_lengthOn_0 : decode cX0_lengthOn 0 = .ok (.aload_n 0, 1) := by decide +kernel
theorem dX0_lengthOn_1 : decode cX0_lengthOn 1 = .ok (.getfield 35, 3) := by decide +kernel
theorem dX0_lengthOn_4 : decode cX0_lengthOn 4 = .ok (.ifCond .eq 16, 3) := by decide +kernel
theorem dX0_lengthOn_7 : decode cX0_lengthOn 7 = .ok (.iload_n 2, 1) := by decide +kernel
theorem dX0_lengthOn_8 : decode cX0_lengthOn 8 = .ok (.iconst 2, 1) := by decide +kernel
theorem dX0_lengthOn_9 : decode cX0_lengthOn 9 = .ok (.irem, 1) := by decide +kernel
theorem dX0_lengthOn_10 : decode cX0_lengthOn 10 = .ok (.iconst 1, 1) := by decide +kernel
theorem dX0_lengthOn_11 : decode cX0_lengthOn 11 = .ok (.if_icmp .ne 9, 3) := by decide +kernel
theorem dX0_lengthOn_14 : decode cX0_lengthOn 14 = .ok (.iload_n 1, 1) := by decide +kernel
theorem dX0_lengthOn_15 : decode cX0_lengthOn 15 = .ok (.iconst 1, 1) := by decide +kernel
theorem dX0_lengthOn_16 : decode cX0_lengthOn 16 = .ok (.iadd, 1) := by decide +kernel
theorem dX0_lengthOn_17 : decode cX0_lengthOn 17 = .ok (.goto 4, 3) := by decide +kernel
theorem dX0_lengthOn_20 : decode cX0_lengthOn 20 = .ok (.iload_n 1, 1) := by decide +kernel
theorem dX0_lengthOn_21 : decode cX0_lengthOn 21 = .ok (.istore_n 3, 1) := by decide +kernel
theorem dX0_lengthOn_22 : decode cX0_lengthOn 22 = .ok (.iload_n 3, 1) := by decide +kernel
theorem dX0_lengthOn_23 : decode cX0_lengthOn 23 = .ok (.aload_n 0, 1) := by decide +kernel
theorem dX0_lengthOn_24 : decode cX0_lengthOn 24 = .ok (.getfield 22, 3) := by decide +kernel
theorem dX0_lengthOn_27 : decode cX0_lengthOn 27 = .ok (.if_icmp .ne 5, 3) := by decide +kernel
theorem dX0_lengthOn_30 : decode cX0_lengthOn 30 = .ok (.iconst 0, 1) := by decide +kernel
theorem dX0_lengthOn_31 : decode cX0_lengthOn 31 = .ok (.istore_n 3, 1) := by decide +kernel
theorem dX0_lengthOn_32 : decode cX0_lengthOn 32 = .ok (.aload_n 0, 1) := by decide +kernel
theorem dX0_lengthOn_33 : decode cX0_lengthOn 33 = .ok (.iload_n 3, 1) := by decide +kernel
theorem dX0_lengthOn_34 : decode cX0_lengthOn 34 = .ok (.invokevirtual 39, 3) := by decide +kernel
theorem dX0_lengthOn_37 : decode cX0_lengthOn 37 = .ok (.ifCond .eq 12, 3) := by decide +kernel
theorem dX0_lengthOn_40 : decode cX0_lengthOn 40 = .ok (.aload_n 0, 1) := by decide +kernel
theorem dX0_lengthOn_41 : decode cX0_lengthOn 41 = .ok (.getfield 9, 3) := by decide +kernel
theorem dX0_lengthOn_44 : decode cX0_lengthOn 44 = .ok (.iload_n 3, 1) := by decide +kernel
theorem dX0_lengthOn_45 : decode cX0_lengthOn 45 = .ok (.iaload, 1) := by decide +kernel
theorem dX0_lengthOn_46 : decode cX0_lengthOn 46 = .ok (.goto 4, 3) := by decide +kernel
theorem dX0_lengthOn_49 : decode cX0_lengthOn 49 = .ok (.iconst 0, 1) := by decide +kernel
theorem dX0_lengthOn_50 : decode cX0_lengthOn 50 = .ok (.istore 4, 2) := by decide +kernel
theorem dX0_lengthOn_52 : decode cX0_lengthOn 52 = .ok (.iload 4, 2) := by decide +kernel
theorem dX0_lengthOn_54 : decode cX0_lengthOn 54 = .ok (.iload_n 2, 1) := by decide +kernel
theorem dX0_lengthOn_55 : decode cX0_lengthOn 55 = .ok (.invokestatic 31, 3) := by decide +kernel
theorem dX0_lengthOn_58 : decode cX0_lengthOn 58 = .ok (.ifCond .eq 12, 3) := by decide +kernel
theorem dX0_lengthOn_61 : decode cX0_lengthOn 61 = .ok (.aload_n 0, 1) := by decide +kernel
theorem dX0_lengthOn_62 : decode cX0_lengthOn 62 = .ok (.getfield 15, 3) := by decide +kernel
theorem dX0_lengthOn_65 : decode cX0_lengthOn 65 = .ok (.iload_n 2, 1) := by decide +kernel
theorem dX0_lengthOn_66 : decode cX0_lengthOn 66 = .ok (.iaload, 1) := by decide +kernel
theorem dX0_lengthOn_67 : decode cX0_lengthOn 67 = .ok (.goto 4, 3) := by decide +kernel
theorem dX0_lengthOn_70 : decode cX0_lengthOn 70 = .ok (.iconst 0, 1) := by decide +kernel
theorem dX0_lengthOn_71 : decode cX0_lengthOn 71 = .ok (.iadd, 1) := by decide +kernel
theorem dX0_lengthOn_72 : decode cX0_lengthOn 72 = .ok (.istore 4, 2) := by decide +kernel
theorem dX0_lengthOn_74 : decode cX0_lengthOn 74 = .ok (.aload_n 0, 1) := by decide +kernel
theorem dX0_lengthOn_75 : decode cX0_lengthOn 75 = .ok (.getfield 18, 3) := by decide +kernel
theorem dX0_lengthOn_78 : decode cX0_lengthOn 78 = .ok (.iconst (-1), 1) := by decide +kernel
theorem dX0_lengthOn_79 : decode cX0_lengthOn 79 = .ok (.if_icmp .ne 8, 3) := by decide +kernel
theorem dX0_lengthOn_82 : decode cX0_lengthOn 82 = .ok (.iload 4, 2) := by decide +kernel
theorem dX0_lengthOn_84 : decode cX0_lengthOn 84 = .ok (.goto 12, 3) := by decide +kernel
theorem dX0_lengthOn_87 : decode cX0_lengthOn 87 = .ok (.iload 4, 2) := by decide +kernel
theorem dX0_lengthOn_89 : decode cX0_lengthOn 89 = .ok (.aload_n 0, 1) := by decide +kernel
theorem dX0_lengthOn_90 : decode cX0_lengthOn 90 = .ok (.iload_n 1, 1) := by decide +kernel
theorem dX0_lengthOn_91 : decode cX0_lengthOn 91 = .ok (.iload_n 2, 1) := by decide +kernel
theorem dX0_lengthOn_92 : decode cX0_lengthOn 92 = .ok (.invokevirtual 42, 3) := by decide +kernel
theorem dX0_lengthOn_95 : decode cX0_lengthOn 95 = .ok (.iadd, 1) := by decide +kernel
theorem dX0_lengthOn_96 : decode cX0_lengthOn 96 = .ok (.ireturn, 1) := by decide +kernel
theorem dX0_drawn_0 : decode cX0_drawn 0 = .ok (.ldc2_w 46, 3) := by decide +kernel
theorem dX0_drawn_3 : decode cX0_drawn 3 = .ok (.aload_n 0, 1) := by decide +kernel
theorem dX0_drawn_4 : decode cX0_drawn 4 = .ok (.getfield 18, 3) := by decide +kernel
theorem dX0_drawn_7 : decode cX0_drawn 7 = .ok (.i2l, 1) := by decide +kernel
theorem dX0_drawn_8 : decode cX0_drawn 8 = .ok (.lmul, 1) := by decide +kernel
theorem dX0_drawn_9 : decode cX0_drawn 9 = .ok (.ldc2_w 48, 3) := by decide +kernel
theorem dX0_drawn_12 : decode cX0_drawn 12 = .ok (.iload_n 2, 1) := by decide +kernel
theorem dX0_drawn_13 : decode cX0_drawn 13 = .ok (.i2l, 1) := by decide +kernel
theorem dX0_drawn_14 : decode cX0_drawn 14 = .ok (.lmul, 1) := by decide +kernel
theorem dX0_drawn_15 : decode cX0_drawn 15 = .ok (.ladd, 1) := by decide +kernel
theorem dX0_drawn_16 : decode cX0_drawn 16 = .ok (.ldc2_w 50, 3) := by decide +kernel
theorem dX0_drawn_19 : decode cX0_drawn 19 = .ok (.iload_n 1, 1) := by decide +kernel
theorem dX0_drawn_20 : decode cX0_drawn 20 = .ok (.i2l, 1) := by decide +kernel
theorem dX0_drawn_21 : decode cX0_drawn 21 = .ok (.lmul, 1) := by decide +kernel
theorem dX0_drawn_22 : decode cX0_drawn 22 = .ok (.ladd, 1) := by decide +kernel
theorem dX0_drawn_23 : decode cX0_drawn 23 = .ok (.lconst 1, 1) := by decide +kernel
theorem dX0_drawn_24 : decode cX0_drawn 24 = .ok (.ladd, 1) := by decide +kernel
theorem dX0_drawn_25 : decode cX0_drawn 25 = .ok (.lstore_n 3, 1) := by decide +kernel
theorem dX0_drawn_26 : decode cX0_drawn 26 = .ok (.lload_n 3, 1) := by decide +kernel
theorem dX0_drawn_27 : decode cX0_drawn 27 = .ok (.lload_n 3, 1) := by decide +kernel
theorem dX0_drawn_28 : decode cX0_drawn 28 = .ok (.lmul, 1) := by decide +kernel
theorem dX0_drawn_29 : decode cX0_drawn 29 = .ok (.ldc2_w 52, 3) := by decide +kernel
theorem dX0_drawn_32 : decode cX0_drawn 32 = .ok (.lrem, 1) := by decide +kernel
theorem dX0_drawn_33 : decode cX0_drawn 33 = .ok (.ldc2_w 54, 3) := by decide +kernel
theorem dX0_drawn_36 : decode cX0_drawn 36 = .ok (.lrem, 1) := by decide +kernel
theorem dX0_drawn_37 : decode cX0_drawn 37 = .ok (.l2i, 1) := by decide +kernel
theorem dX0_drawn_38 : decode cX0_drawn 38 = .ok (.iconst 3, 1) := by decide +kernel
theorem dX0_drawn_39 : decode cX0_drawn 39 = .ok (.isub, 1) := by decide +kernel
theorem dX0_drawn_40 : decode cX0_drawn 40 = .ok (.ireturn, 1) := by decide +kernel
theorem dX1_init_0 : decode cX1_init 0 = .ok (.aload_n 0, 1) := by decide +kernel
theorem dX1_init_1 : decode cX1_init 1 = .ok (.invokespecial 3, 3) := by decide +kernel
theorem dX1_init_4 : decode cX1_init 4 = .ok (.aload_n 0, 1) := by decide +kernel
theorem dX1_init_5 : decode cX1_init 5 = .ok (.bipush 8, 2) := by decide +kernel
theorem dX1_init_7 : decode cX1_init 7 = .ok (.newarray .int, 2) := by decide +kernel
theorem dX1_init_9 : decode cX1_init 9 = .ok (.putfield 9, 3) := by decide +kernel
theorem dX1_init_12 : decode cX1_init 12 = .ok (.aload_n 0, 1) := by decide +kernel
theorem dX1_init_13 : decode cX1_init 13 = .ok (.bipush 8, 2) := by decide +kernel
theorem dX1_init_15 : decode cX1_init 15 = .ok (.newarray .int, 2) := by decide +kernel
theorem dX1_init_17 : decode cX1_init 17 = .ok (.putfield 15, 3) := by decide +kernel
theorem dX1_init_20 : decode cX1_init 20 = .ok (.aload_n 0, 1) := by decide +kernel
theorem dX1_init_21 : decode cX1_init 21 = .ok (.bipush 8, 2) := by decide +kernel
theorem dX1_init_23 : decode cX1_init 23 = .ok (.newarray .int, 2) := by decide +kernel
theorem dX1_init_25 : decode cX1_init 25 = .ok (.putfield 18, 3) := by decide +kernel
theorem dX1_init_28 : decode cX1_init 28 = .ok (.return_, 1) := by decide +kernel
theorem dX1_push_0 : decode cX1_push 0 = .ok (.aload_n 0, 1) := by decide +kernel
theorem dX1_push_1 : decode cX1_push 1 = .ok (.getfield 21, 3) := by decide +kernel
theorem dX1_push_4 : decode cX1_push 4 = .ok (.bipush 8, 2) := by decide +kernel
theorem dX1_push_6 : decode cX1_push 6 = .ok (.if_icmp .lt 7, 3) := by decide +kernel
theorem dX1_push_9 : decode cX1_push 9 = .ok (.aload_n 0, 1) := by decide +kernel
theorem dX1_push_10 : decode cX1_push 10 = .ok (.invokevirtual 25, 3) := by decide +kernel
theorem dX1_push_13 : decode cX1_push 13 = .ok (.aload_n 0, 1) := by decide +kernel
theorem dX1_push_14 : decode cX1_push 14 = .ok (.getfield 9, 3) := by decide +kernel
theorem dX1_push_17 : decode cX1_push 17 = .ok (.aload_n 0, 1) := by decide +kernel
theorem dX1_push_18 : decode cX1_push 18 = .ok (.getfield 21, 3) := by decide +kernel
theorem dX1_push_21 : decode cX1_push 21 = .ok (.iload_n 1, 1) := by decide +kernel
theorem dX1_push_22 : decode cX1_push 22 = .ok (.iastore, 1) := by decide +kernel
theorem dX1_push_23 : decode cX1_push 23 = .ok (.aload_n 0, 1) := by decide +kernel
theorem dX1_push_24 : decode cX1_push 24 = .ok (.getfield 15, 3) := by decide +kernel
theorem dX1_push_27 : decode cX1_push 27 = .ok (.aload_n 0, 1) := by decide +kernel
theorem dX1_push_28 : decode cX1_push 28 = .ok (.getfield 21, 3) := by decide +kernel
theorem dX1_push_31 : decode cX1_push 31 = .ok (.iload_n 2, 1) := by decide +kernel
theorem dX1_push_32 : decode cX1_push 32 = .ok (.iastore, 1) := by decide +kernel
theorem dX1_push_33 : decode cX1_push 33 = .ok (.aload_n 0, 1) := by decide +kernel
theorem dX1_push_34 : decode cX1_push 34 = .ok (.getfield 18, 3) := by decide +kernel
theorem dX1_push_37 : decode cX1_push 37 = .ok (.aload_n 0, 1) := by decide +kernel
theorem dX1_push_38 : decode cX1_push 38 = .ok (.getfield 21, 3) := by decide +kernel
theorem dX1_push_41 : decode cX1_push 41 = .ok (.iload_n 3, 1) := by decide +kernel
theorem dX1_push_42 : decode cX1_push 42 = .ok (.iastore, 1) := by decide +kernel
theorem dX1_push_43 : decode cX1_push 43 = .ok (.aload_n 0, 1) := by decide +kernel
theorem dX1_push_44 : decode cX1_push 44 = .ok (.dup, 1) := by decide +kernel
theorem dX1_push_45 : decode cX1_push 45 = .ok (.getfield 21, 3) := by decide +kernel
theorem dX1_push_48 : decode cX1_push 48 = .ok (.iconst 1, 1) := by decide +kernel
theorem dX1_push_49 : decode cX1_push 49 = .ok (.iadd, 1) := by decide +kernel
theorem dX1_push_50 : decode cX1_push 50 = .ok (.putfield 21, 3) := by decide +kernel
theorem dX1_push_53 : decode cX1_push 53 = .ok (.return_, 1) := by decide +kernel
theorem dX1_dropOldest_0 : decode cX1_dropOldest 0 = .ok (.iconst 1, 1) := by decide +kernel
theorem dX1_dropOldest_1 : decode cX1_dropOldest 1 = .ok (.istore_n 1, 1) := by decide +kernel
theorem dX1_dropOldest_2 : decode cX1_dropOldest 2 = .ok (.iload_n 1, 1) := by decide +kernel
theorem dX1_dropOldest_3 : decode cX1_dropOldest 3 = .ok (.bipush 8, 2) := by decide +kernel
theorem dX1_dropOldest_5 : decode cX1_dropOldest 5 = .ok (.if_icmp .ge 51, 3) := by decide +kernel
theorem dX1_dropOldest_8 : decode cX1_dropOldest 8 = .ok (.aload_n 0, 1) := by decide +kernel
theorem dX1_dropOldest_9 : decode cX1_dropOldest 9 = .ok (.getfield 9, 3) := by decide +kernel
theorem dX1_dropOldest_12 : decode cX1_dropOldest 12 = .ok (.iload_n 1, 1) := by decide +kernel
theorem dX1_dropOldest_13 : decode cX1_dropOldest 13 = .ok (.iconst 1, 1) := by decide +kernel
theorem dX1_dropOldest_14 : decode cX1_dropOldest 14 = .ok (.isub, 1) := by decide +kernel
theorem dX1_dropOldest_15 : decode cX1_dropOldest 15 = .ok (.aload_n 0, 1) := by decide +kernel
theorem dX1_dropOldest_16 : decode cX1_dropOldest 16 = .ok (.getfield 9, 3) := by decide +kernel
theorem dX1_dropOldest_19 : decode cX1_dropOldest 19 = .ok (.iload_n 1, 1) := by decide +kernel
theorem dX1_dropOldest_20 : decode cX1_dropOldest 20 = .ok (.iaload, 1) := by decide +kernel
theorem dX1_dropOldest_21 : decode cX1_dropOldest 21 = .ok (.iastore, 1) := by decide +kernel
theorem dX1_dropOldest_22 : decode cX1_dropOldest 22 = .ok (.aload_n 0, 1) := by decide +kernel
theorem dX1_dropOldest_23 : decode cX1_dropOldest 23 = .ok (.getfield 15, 3) := by decide +kernel
theorem dX1_dropOldest_26 : decode cX1_dropOldest 26 = .ok (.iload_n 1, 1) := by decide +kernel
theorem dX1_dropOldest_27 : decode cX1_dropOldest 27 = .ok (.iconst 1, 1) := by decide +kernel
theorem dX1_dropOldest_28 : decode cX1_dropOldest 28 = .ok (.isub, 1) := by decide +kernel
theorem dX1_dropOldest_29 : decode cX1_dropOldest 29 = .ok (.aload_n 0, 1) := by decide +kernel
theorem dX1_dropOldest_30 : decode cX1_dropOldest 30 = .ok (.getfield 15, 3) := by decide +kernel
theorem dX1_dropOldest_33 : decode cX1_dropOldest 33 = .ok (.iload_n 1, 1) := by decide +kernel
theorem dX1_dropOldest_34 : decode cX1_dropOldest 34 = .ok (.iaload, 1) := by decide +kernel
theorem dX1_dropOldest_35 : decode cX1_dropOldest 35 = .ok (.iastore, 1) := by decide +kernel
theorem dX1_dropOldest_36 : decode cX1_dropOldest 36 = .ok (.aload_n 0, 1) := by decide +kernel
theorem dX1_dropOldest_37 : decode cX1_dropOldest 37 = .ok (.getfield 18, 3) := by decide +kernel
theorem dX1_dropOldest_40 : decode cX1_dropOldest 40 = .ok (.iload_n 1, 1) := by decide +kernel
theorem dX1_dropOldest_41 : decode cX1_dropOldest 41 = .ok (.iconst 1, 1) := by decide +kernel
theorem dX1_dropOldest_42 : decode cX1_dropOldest 42 = .ok (.isub, 1) := by decide +kernel
theorem dX1_dropOldest_43 : decode cX1_dropOldest 43 = .ok (.aload_n 0, 1) := by decide +kernel
theorem dX1_dropOldest_44 : decode cX1_dropOldest 44 = .ok (.getfield 18, 3) := by decide +kernel
theorem dX1_dropOldest_47 : decode cX1_dropOldest 47 = .ok (.iload_n 1, 1) := by decide +kernel
theorem dX1_dropOldest_48 : decode cX1_dropOldest 48 = .ok (.iaload, 1) := by decide +kernel
theorem dX1_dropOldest_49 : decode cX1_dropOldest 49 = .ok (.iastore, 1) := by decide +kernel
theorem dX1_dropOldest_50 : decode cX1_dropOldest 50 = .ok (.iinc 1 1, 3) := by decide +kernel
theorem dX1_dropOldest_53 : decode cX1_dropOldest 53 = .ok (.goto (-51), 3) := by decide +kernel
theorem dX1_dropOldest_56 : decode cX1_dropOldest 56 = .ok (.aload_n 0, 1) := by decide +kernel
theorem dX1_dropOldest_57 : decode cX1_dropOldest 57 = .ok (.bipush 7, 2) := by decide +kernel
theorem dX1_dropOldest_59 : decode cX1_dropOldest 59 = .ok (.putfield 21, 3) := by decide +kernel
theorem dX1_dropOldest_62 : decode cX1_dropOldest 62 = .ok (.return_, 1) := by decide +kernel
theorem dX1_takeBack_0 : decode cX1_takeBack 0 = .ok (.aload_n 0, 1) := by decide +kernel
theorem dX1_takeBack_1 : decode cX1_takeBack 1 = .ok (.getfield 21, 3) := by decide +kernel
theorem dX1_takeBack_4 : decode cX1_takeBack 4 = .ok (.ifCond .gt 4, 3) := by decide +kernel
theorem dX1_takeBack_7 : decode cX1_takeBack 7 = .ok (.return_, 1) := by decide +kernel
theorem dX1_takeBack_8 : decode cX1_takeBack 8 = .ok (.aload_n 0, 1) := by decide +kernel
theorem dX1_takeBack_9 : decode cX1_takeBack 9 = .ok (.dup, 1) := by decide +kernel
theorem dX1_takeBack_10 : decode cX1_takeBack 10 = .ok (.getfield 21, 3) := by decide +kernel
theorem dX1_takeBack_13 : decode cX1_takeBack 13 = .ok (.iconst 1, 1) := by decide +kernel
theorem dX1_takeBack_14 : decode cX1_takeBack 14 = .ok (.isub, 1) := by decide +kernel
theorem dX1_takeBack_15 : decode cX1_takeBack 15 = .ok (.putfield 21, 3) := by decide +kernel
theorem dX1_takeBack_18 : decode cX1_takeBack 18 = .ok (.aload_n 0, 1) := by decide +kernel
theorem dX1_takeBack_19 : decode cX1_takeBack 19 = .ok (.getfield 15, 3) := by decide +kernel
theorem dX1_takeBack_22 : decode cX1_takeBack 22 = .ok (.aload_n 0, 1) := by decide +kernel
theorem dX1_takeBack_23 : decode cX1_takeBack 23 = .ok (.getfield 21, 3) := by decide +kernel
theorem dX1_takeBack_26 : decode cX1_takeBack 26 = .ok (.iaload, 1) := by decide +kernel
theorem dX1_takeBack_27 : decode cX1_takeBack 27 = .ok (.istore_n 2, 1) := by decide +kernel
theorem dX1_takeBack_28 : decode cX1_takeBack 28 = .ok (.aload_n 1, 1) := by decide +kernel
theorem dX1_takeBack_29 : decode cX1_takeBack 29 = .ok (.iload_n 2, 1) := by decide +kernel
theorem dX1_takeBack_30 : decode cX1_takeBack 30 = .ok (.invokevirtual 28, 3) := by decide +kernel
theorem dX1_takeBack_33 : decode cX1_takeBack 33 = .ok (.ifCond .ne 4, 3) := by decide +kernel
theorem dX1_takeBack_36 : decode cX1_takeBack 36 = .ok (.return_, 1) := by decide +kernel
theorem dX1_takeBack_37 : decode cX1_takeBack 37 = .ok (.aload_n 0, 1) := by decide +kernel
theorem dX1_takeBack_38 : decode cX1_takeBack 38 = .ok (.getfield 9, 3) := by decide +kernel
theorem dX1_takeBack_41 : decode cX1_takeBack 41 = .ok (.aload_n 0, 1) := by decide +kernel
theorem dX1_takeBack_42 : decode cX1_takeBack 42 = .ok (.getfield 21, 3) := by decide +kernel
theorem dX1_takeBack_45 : decode cX1_takeBack 45 = .ok (.iaload, 1) := by decide +kernel
theorem dX1_takeBack_46 : decode cX1_takeBack 46 = .ok (.lookupswitch 65 #[(0, 26), (1, 47)], 26) := by decide +kernel
theorem dX1_takeBack_72 : decode cX1_takeBack 72 = .ok (.aload_n 1, 1) := by decide +kernel
theorem dX1_takeBack_73 : decode cX1_takeBack 73 = .ok (.aload_n 1, 1) := by decide +kernel
theorem dX1_takeBack_74 : decode cX1_takeBack 74 = .ok (.iload_n 2, 1) := by decide +kernel
theorem dX1_takeBack_75 : decode cX1_takeBack 75 = .ok (.invokevirtual 34, 3) := by decide +kernel
theorem dX1_takeBack_78 : decode cX1_takeBack 78 = .ok (.aload_n 0, 1) := by decide +kernel
theorem dX1_takeBack_79 : decode cX1_takeBack 79 = .ok (.getfield 18, 3) := by decide +kernel
theorem dX1_takeBack_82 : decode cX1_takeBack 82 = .ok (.aload_n 0, 1) := by decide +kernel
theorem dX1_takeBack_83 : decode cX1_takeBack 83 = .ok (.getfield 21, 3) := by decide +kernel
theorem dX1_takeBack_86 : decode cX1_takeBack 86 = .ok (.iaload, 1) := by decide +kernel
theorem dX1_takeBack_87 : decode cX1_takeBack 87 = .ok (.invokevirtual 38, 3) := by decide +kernel
theorem dX1_takeBack_90 : decode cX1_takeBack 90 = .ok (.goto 36, 3) := by decide +kernel
theorem dX1_takeBack_93 : decode cX1_takeBack 93 = .ok (.aload_n 1, 1) := by decide +kernel
theorem dX1_takeBack_94 : decode cX1_takeBack 94 = .ok (.getfield 42, 3) := by decide +kernel
theorem dX1_takeBack_97 : decode cX1_takeBack 97 = .ok (.iload_n 2, 1) := by decide +kernel
theorem dX1_takeBack_98 : decode cX1_takeBack 98 = .ok (.aload_n 0, 1) := by decide +kernel
theorem dX1_takeBack_99 : decode cX1_takeBack 99 = .ok (.getfield 18, 3) := by decide +kernel
theorem dX1_takeBack_102 : decode cX1_takeBack 102 = .ok (.aload_n 0, 1) := by decide +kernel
theorem dX1_takeBack_103 : decode cX1_takeBack 103 = .ok (.getfield 21, 3) := by decide +kernel
theorem dX1_takeBack_106 : decode cX1_takeBack 106 = .ok (.iaload, 1) := by decide +kernel
theorem dX1_takeBack_107 : decode cX1_takeBack 107 = .ok (.iastore, 1) := by decide +kernel
theorem dX1_takeBack_108 : decode cX1_takeBack 108 = .ok (.goto 18, 3) := by decide +kernel
theorem dX1_takeBack_111 : decode cX1_takeBack 111 = .ok (.aload_n 1, 1) := by decide +kernel
theorem dX1_takeBack_112 : decode cX1_takeBack 112 = .ok (.getfield 45, 3) := by decide +kernel
theorem dX1_takeBack_115 : decode cX1_takeBack 115 = .ok (.iload_n 2, 1) := by decide +kernel
theorem dX1_takeBack_116 : decode cX1_takeBack 116 = .ok (.aload_n 0, 1) := by decide +kernel
theorem dX1_takeBack_117 : decode cX1_takeBack 117 = .ok (.getfield 18, 3) := by decide +kernel
theorem dX1_takeBack_120 : decode cX1_takeBack 120 = .ok (.aload_n 0, 1) := by decide +kernel
theorem dX1_takeBack_121 : decode cX1_takeBack 121 = .ok (.getfield 21, 3) := by decide +kernel
theorem dX1_takeBack_124 : decode cX1_takeBack 124 = .ok (.iaload, 1) := by decide +kernel
theorem dX1_takeBack_125 : decode cX1_takeBack 125 = .ok (.iastore, 1) := by decide +kernel
theorem dX1_takeBack_126 : decode cX1_takeBack 126 = .ok (.return_, 1) := by decide +kernel
theorem dX2_init_0 : decode cX2_init 0 = .ok (.aload_n 0, 1) := by decide +kernel
theorem dX2_init_1 : decode cX2_init 1 = .ok (.invokespecial 3, 3) := by decide +kernel
theorem dX2_init_4 : decode cX2_init 4 = .ok (.aload_n 0, 1) := by decide +kernel
theorem dX2_init_5 : decode cX2_init 5 = .ok (.new 9, 3) := by decide +kernel
theorem dX2_init_8 : decode cX2_init 8 = .ok (.dup, 1) := by decide +kernel
theorem dX2_init_9 : decode cX2_init 9 = .ok (.invokespecial 11, 3) := by decide +kernel
theorem dX2_init_12 : decode cX2_init 12 = .ok (.putfield 12, 3) := by decide +kernel
theorem dX2_init_15 : decode cX2_init 15 = .ok (.aload_n 0, 1) := by decide +kernel
theorem dX2_init_16 : decode cX2_init 16 = .ok (.new 18, 3) := by decide +kernel
theorem dX2_init_19 : decode cX2_init 19 = .ok (.dup, 1) := by decide +kernel
theorem dX2_init_20 : decode cX2_init 20 = .ok (.invokespecial 20, 3) := by decide +kernel
theorem dX2_init_23 : decode cX2_init 23 = .ok (.putfield 21, 3) := by decide +kernel
theorem dX2_init_26 : decode cX2_init 26 = .ok (.aload_n 0, 1) := by decide +kernel
theorem dX2_init_27 : decode cX2_init 27 = .ok (.iconst 4, 1) := by decide +kernel
theorem dX2_init_28 : decode cX2_init 28 = .ok (.newarray .int, 2) := by decide +kernel
theorem dX2_init_30 : decode cX2_init 30 = .ok (.putfield 25, 3) := by decide +kernel
theorem dX2_init_33 : decode cX2_init 33 = .ok (.return_, 1) := by decide +kernel
theorem dX2_clear_0 : decode cX2_clear 0 = .ok (.aload_n 0, 1) := by decide +kernel
theorem dX2_clear_1 : decode cX2_clear 1 = .ok (.getfield 12, 3) := by decide +kernel
theorem dX2_clear_4 : decode cX2_clear 4 = .ok (.invokevirtual 29, 3) := by decide +kernel
theorem dX2_clear_7 : decode cX2_clear 7 = .ok (.aload_n 0, 1) := by decide +kernel
theorem dX2_clear_8 : decode cX2_clear 8 = .ok (.getfield 21, 3) := by decide +kernel
theorem dX2_clear_11 : decode cX2_clear 11 = .ok (.iconst 0, 1) := by decide +kernel
theorem dX2_clear_12 : decode cX2_clear 12 = .ok (.putfield 32, 3) := by decide +kernel
theorem dX2_clear_15 : decode cX2_clear 15 = .ok (.aload_n 0, 1) := by decide +kernel
theorem dX2_clear_16 : decode cX2_clear 16 = .ok (.iconst 0, 1) := by decide +kernel
theorem dX2_clear_17 : decode cX2_clear 17 = .ok (.putfield 36, 3) := by decide +kernel
theorem dX2_clear_20 : decode cX2_clear 20 = .ok (.aload_n 0, 1) := by decide +kernel
theorem dX2_clear_21 : decode cX2_clear 21 = .ok (.iconst 1, 1) := by decide +kernel
theorem dX2_clear_22 : decode cX2_clear 22 = .ok (.putfield 39, 3) := by decide +kernel
theorem dX2_clear_25 : decode cX2_clear 25 = .ok (.return_, 1) := by decide +kernel
theorem dX2_canOpen_0 : decode cX2_canOpen 0 = .ok (.aload_n 0, 1) := by decide +kernel
theorem dX2_canOpen_1 : decode cX2_canOpen 1 = .ok (.getfield 12, 3) := by decide +kernel
theorem dX2_canOpen_4 : decode cX2_canOpen 4 = .ok (.getfield 42, 3) := by decide +kernel
theorem dX2_canOpen_7 : decode cX2_canOpen 7 = .ok (.ifCond .le 17, 3) := by decide +kernel
theorem dX2_canOpen_10 : decode cX2_canOpen 10 = .ok (.aload_n 0, 1) := by decide +kernel
theorem dX2_canOpen_11 : decode cX2_canOpen 11 = .ok (.getfield 21, 3) := by decide +kernel
theorem dX2_canOpen_14 : decode cX2_canOpen 14 = .ok (.getfield 32, 3) := by decide +kernel
theorem dX2_canOpen_17 : decode cX2_canOpen 17 = .ok (.ifCond .le 7, 3) := by decide +kernel
theorem dX2_canOpen_20 : decode cX2_canOpen 20 = .ok (.iconst 1, 1) := by decide +kernel
theorem dX2_canOpen_21 : decode cX2_canOpen 21 = .ok (.goto 4, 3) := by decide +kernel
theorem dX2_canOpen_24 : decode cX2_canOpen 24 = .ok (.iconst 0, 1) := by decide +kernel
theorem dX2_canOpen_25 : decode cX2_canOpen 25 = .ok (.ireturn, 1) := by decide +kernel
theorem dX2_tell_0 : decode cX2_tell 0 = .ok (.iload_n 1, 1) := by decide +kernel
theorem dX2_tell_1 : decode cX2_tell 1 = .ok (.tableswitch 277 98 114 #[83, 277, 277, 277, 112, 154, 208, 277, 277, 232, 277, 277, 277, 277, 277, 277, 251], 83) := by decide +kernel
theorem dX2_tell_84 : decode cX2_tell 84 = .ok (.iload_n 2, 1) := by decide +kernel
theorem dX2_tell_85 : decode cX2_tell 85 = .ok (.iconst 1, 1) := by decide +kernel
theorem dX2_tell_86 : decode cX2_tell 86 = .ok (.if_icmp .ne 25, 3) := by decide +kernel
theorem dX2_tell_89 : decode cX2_tell 89 = .ok (.iload_n 3, 1) := by decide +kernel
theorem dX2_tell_90 : decode cX2_tell 90 = .ok (.invokestatic 43, 3) := by decide +kernel
theorem dX2_tell_93 : decode cX2_tell 93 = .ok (.ifCond .eq 18, 3) := by decide +kernel
theorem dX2_tell_96 : decode cX2_tell 96 = .ok (.aload_n 0, 1) := by decide +kernel
theorem dX2_tell_97 : decode cX2_tell 97 = .ok (.getfield 12, 3) := by decide +kernel
theorem dX2_tell_100 : decode cX2_tell 100 = .ok (.iload_n 3, 1) := by decide +kernel
theorem dX2_tell_101 : decode cX2_tell 101 = .ok (.invokevirtual 47, 3) := by decide +kernel
theorem dX2_tell_104 : decode cX2_tell 104 = .ok (.ifCond .eq 7, 3) := by decide +kernel
theorem dX2_tell_107 : decode cX2_tell 107 = .ok (.iconst 1, 1) := by decide +kernel
theorem dX2_tell_108 : decode cX2_tell 108 = .ok (.goto 4, 3) := by decide +kernel
theorem dX2_tell_111 : decode cX2_tell 111 = .ok (.iconst 0, 1) := by decide +kernel
theorem dX2_tell_112 : decode cX2_tell 112 = .ok (.ireturn, 1) := by decide +kernel
theorem dX2_tell_113 : decode cX2_tell 113 = .ok (.iload_n 2, 1) := by decide +kernel
theorem dX2_tell_114 : decode cX2_tell 114 = .ok (.iconst 2, 1) := by decide +kernel
theorem dX2_tell_115 : decode cX2_tell 115 = .ok (.if_icmp .ne 38, 3) := by decide +kernel
theorem dX2_tell_118 : decode cX2_tell 118 = .ok (.iload_n 3, 1) := by decide +kernel
theorem dX2_tell_119 : decode cX2_tell 119 = .ok (.invokestatic 50, 3) := by decide +kernel
theorem dX2_tell_122 : decode cX2_tell 122 = .ok (.ifCond .eq 31, 3) := by decide +kernel
theorem dX2_tell_125 : decode cX2_tell 125 = .ok (.iload 4, 2) := by decide +kernel
theorem dX2_tell_127 : decode cX2_tell 127 = .ok (.iconst 0, 1) := by decide +kernel
theorem dX2_tell_128 : decode cX2_tell 128 = .ok (.bipush 9, 2) := by decide +kernel
theorem dX2_tell_130 : decode cX2_tell 130 = .ok (.invokestatic 53, 3) := by decide +kernel
theorem dX2_tell_133 : decode cX2_tell 133 = .ok (.ifCond .eq 20, 3) := by decide +kernel
theorem dX2_tell_136 : decode cX2_tell 136 = .ok (.aload_n 0, 1) := by decide +kernel
theorem dX2_tell_137 : decode cX2_tell 137 = .ok (.getfield 12, 3) := by decide +kernel
theorem dX2_tell_140 : decode cX2_tell 140 = .ok (.iload_n 3, 1) := by decide +kernel
theorem dX2_tell_141 : decode cX2_tell 141 = .ok (.iload 4, 2) := by decide +kernel
theorem dX2_tell_143 : decode cX2_tell 143 = .ok (.invokevirtual 57, 3) := by decide +kernel
theorem dX2_tell_146 : decode cX2_tell 146 = .ok (.ifCond .eq 7, 3) := by decide +kernel
theorem dX2_tell_149 : decode cX2_tell 149 = .ok (.iconst 1, 1) := by decide +kernel
theorem dX2_tell_150 : decode cX2_tell 150 = .ok (.goto 4, 3) := by decide +kernel
theorem dX2_tell_153 : decode cX2_tell 153 = .ok (.iconst 0, 1) := by decide +kernel
theorem dX2_tell_154 : decode cX2_tell 154 = .ok (.ireturn, 1) := by decide +kernel
theorem dX2_tell_155 : decode cX2_tell 155 = .ok (.iload_n 2, 1) := by decide +kernel
theorem dX2_tell_156 : decode cX2_tell 156 = .ok (.iconst 3, 1) := by decide +kernel
theorem dX2_tell_157 : decode cX2_tell 157 = .ok (.if_icmp .ne 50, 3) := by decide +kernel
theorem dX2_tell_160 : decode cX2_tell 160 = .ok (.iload_n 3, 1) := by decide +kernel
theorem dX2_tell_161 : decode cX2_tell 161 = .ok (.invokestatic 43, 3) := by decide +kernel
theorem dX2_tell_164 : decode cX2_tell 164 = .ok (.ifCond .eq 43, 3) := by decide +kernel
theorem dX2_tell_167 : decode cX2_tell 167 = .ok (.iload 4, 2) := by decide +kernel
theorem dX2_tell_169 : decode cX2_tell 169 = .ok (.iconst 0, 1) := by decide +kernel
theorem dX2_tell_170 : decode cX2_tell 170 = .ok (.bipush 9, 2) := by decide +kernel
theorem dX2_tell_172 : decode cX2_tell 172 = .ok (.invokestatic 53, 3) := by decide +kernel
theorem dX2_tell_175 : decode cX2_tell 175 = .ok (.ifCond .eq 32, 3) := by decide +kernel
theorem dX2_tell_178 : decode cX2_tell 178 = .ok (.iload 5, 2) := by decide +kernel
theorem dX2_tell_180 : decode cX2_tell 180 = .ok (.iconst 0, 1) := by decide +kernel
theorem dX2_tell_181 : decode cX2_tell 181 = .ok (.iconst 4, 1) := by decide +kernel
theorem dX2_tell_182 : decode cX2_tell 182 = .ok (.invokestatic 53, 3) := by decide +kernel
theorem dX2_tell_185 : decode cX2_tell 185 = .ok (.ifCond .eq 22, 3) := by decide +kernel
theorem dX2_tell_188 : decode cX2_tell 188 = .ok (.aload_n 0, 1) := by decide +kernel
theorem dX2_tell_189 : decode cX2_tell 189 = .ok (.getfield 21, 3) := by decide +kernel
theorem dX2_tell_192 : decode cX2_tell 192 = .ok (.iload_n 3, 1) := by decide +kernel
theorem dX2_tell_193 : decode cX2_tell 193 = .ok (.iload 4, 2) := by decide +kernel
theorem dX2_tell_195 : decode cX2_tell 195 = .ok (.iload 5, 2) := by decide +kernel
theorem dX2_tell_197 : decode cX2_tell 197 = .ok (.invokevirtual 61, 3) := by decide +kernel
theorem dX2_tell_200 : decode cX2_tell 200 = .ok (.ifCond .eq 7, 3) := by decide +kernel
theorem dX2_tell_203 : decode cX2_tell 203 = .ok (.iconst 1, 1) := by decide +kernel
theorem dX2_tell_204 : decode cX2_tell 204 = .ok (.goto 4, 3) := by decide +kernel
theorem dX2_tell_207 : decode cX2_tell 207 = .ok (.iconst 0, 1) := by decide +kernel
theorem dX2_tell_208 : decode cX2_tell 208 = .ok (.ireturn, 1) := by decide +kernel
theorem dX2_tell_209 : decode cX2_tell 209 = .ok (.iload_n 2, 1) := by decide +kernel
theorem dX2_tell_210 : decode cX2_tell 210 = .ok (.iconst 2, 1) := by decide +kernel
theorem dX2_tell_211 : decode cX2_tell 211 = .ok (.if_icmp .ne 20, 3) := by decide +kernel
theorem dX2_tell_214 : decode cX2_tell 214 = .ok (.aload_n 0, 1) := by decide +kernel
theorem dX2_tell_215 : decode cX2_tell 215 = .ok (.getfield 21, 3) := by decide +kernel
theorem dX2_tell_218 : decode cX2_tell 218 = .ok (.iload_n 3, 1) := by decide +kernel
theorem dX2_tell_219 : decode cX2_tell 219 = .ok (.iload 4, 2) := by decide +kernel
theorem dX2_tell_221 : decode cX2_tell 221 = .ok (.invokevirtual 63, 3) := by decide +kernel
theorem dX2_tell_224 : decode cX2_tell 224 = .ok (.ifCond .eq 7, 3) := by decide +kernel
theorem dX2_tell_227 : decode cX2_tell 227 = .ok (.iconst 1, 1) := by decide +kernel
theorem dX2_tell_228 : decode cX2_tell 228 = .ok (.goto 4, 3) := by decide +kernel
theorem dX2_tell_231 : decode cX2_tell 231 = .ok (.iconst 0, 1) := by decide +kernel
theorem dX2_tell_232 : decode cX2_tell 232 = .ok (.ireturn, 1) := by decide +kernel
theorem dX2_tell_233 : decode cX2_tell 233 = .ok (.iload_n 2, 1) := by decide +kernel
theorem dX2_tell_234 : decode cX2_tell 234 = .ok (.iconst 1, 1) := by decide +kernel
theorem dX2_tell_235 : decode cX2_tell 235 = .ok (.if_icmp .ne 15, 3) := by decide +kernel
theorem dX2_tell_238 : decode cX2_tell 238 = .ok (.aload_n 0, 1) := by decide +kernel
theorem dX2_tell_239 : decode cX2_tell 239 = .ok (.iload_n 3, 1) := by decide +kernel
theorem dX2_tell_240 : decode cX2_tell 240 = .ok (.invokevirtual 66, 3) := by decide +kernel
theorem dX2_tell_243 : decode cX2_tell 243 = .ok (.ifCond .eq 7, 3) := by decide +kernel
theorem dX2_tell_246 : decode cX2_tell 246 = .ok (.iconst 1, 1) := by decide +kernel
theorem dX2_tell_247 : decode cX2_tell 247 = .ok (.goto 4, 3) := by decide +kernel
theorem dX2_tell_250 : decode cX2_tell 250 = .ok (.iconst 0, 1) := by decide +kernel
theorem dX2_tell_251 : decode cX2_tell 251 = .ok (.ireturn, 1) := by decide +kernel
theorem dX2_tell_252 : decode cX2_tell 252 = .ok (.iload_n 2, 1) := by decide +kernel
theorem dX2_tell_253 : decode cX2_tell 253 = .ok (.iconst 1, 1) := by decide +kernel
theorem dX2_tell_254 : decode cX2_tell 254 = .ok (.if_icmp .ne 22, 3) := by decide +kernel
theorem dX2_tell_257 : decode cX2_tell 257 = .ok (.iload_n 3, 1) := by decide +kernel
theorem dX2_tell_258 : decode cX2_tell 258 = .ok (.invokestatic 43, 3) := by decide +kernel
theorem dX2_tell_261 : decode cX2_tell 261 = .ok (.ifCond .eq 15, 3) := by decide +kernel
theorem dX2_tell_264 : decode cX2_tell 264 = .ok (.aload_n 0, 1) := by decide +kernel
theorem dX2_tell_265 : decode cX2_tell 265 = .ok (.iload_n 3, 1) := by decide +kernel
theorem dX2_tell_266 : decode cX2_tell 266 = .ok (.invokevirtual 69, 3) := by decide +kernel
theorem dX2_tell_269 : decode cX2_tell 269 = .ok (.ifCond .eq 7, 3) := by decide +kernel
theorem dX2_tell_272 : decode cX2_tell 272 = .ok (.iconst 1, 1) := by decide +kernel
theorem dX2_tell_273 : decode cX2_tell 273 = .ok (.goto 4, 3) := by decide +kernel
theorem dX2_tell_276 : decode cX2_tell 276 = .ok (.iconst 0, 1) := by decide +kernel
theorem dX2_tell_277 : decode cX2_tell 277 = .ok (.ireturn, 1) := by decide +kernel
theorem dX2_tell_278 : decode cX2_tell 278 = .ok (.iconst 0, 1) := by decide +kernel
theorem dX2_tell_279 : decode cX2_tell 279 = .ok (.ireturn, 1) := by decide +kernel
theorem dX2_enact_0 : decode cX2_enact 0 = .ok (.iload_n 1, 1) := by decide +kernel
theorem dX2_enact_1 : decode cX2_enact 1 = .ok (.iconst 0, 1) := by decide +kernel
theorem dX2_enact_2 : decode cX2_enact 2 = .ok (.iconst 2, 1) := by decide +kernel
theorem dX2_enact_3 : decode cX2_enact 3 = .ok (.invokestatic 53, 3) := by decide +kernel
theorem dX2_enact_6 : decode cX2_enact 6 = .ok (.ifCond .ne 5, 3) := by decide +kernel
theorem dX2_enact_9 : decode cX2_enact 9 = .ok (.iconst 0, 1) := by decide +kernel
theorem dX2_enact_10 : decode cX2_enact 10 = .ok (.ireturn, 1) := by decide +kernel
theorem dX2_enact_11 : decode cX2_enact 11 = .ok (.aload_n 0, 1) := by decide +kernel
theorem dX2_enact_12 : decode cX2_enact 12 = .ok (.iload_n 1, 1) := by decide +kernel
theorem dX2_enact_13 : decode cX2_enact 13 = .ok (.putfield 39, 3) := by decide +kernel
theorem dX2_enact_16 : decode cX2_enact 16 = .ok (.iconst 1, 1) := by decide +kernel
theorem dX2_enact_17 : decode cX2_enact 17 = .ok (.ireturn, 1) := by decide +kernel
theorem dX2_addRival_0 : decode cX2_addRival 0 = .ok (.aload_n 0, 1) := by decide +kernel
theorem dX2_addRival_1 : decode cX2_addRival 1 = .ok (.getfield 36, 3) := by decide +kernel
theorem dX2_addRival_4 : decode cX2_addRival 4 = .ok (.iconst 4, 1) := by decide +kernel
theorem dX2_addRival_5 : decode cX2_addRival 5 = .ok (.if_icmp .lt 5, 3) := by decide +kernel
theorem dX2_addRival_8 : decode cX2_addRival 8 = .ok (.iconst 0, 1) := by decide +kernel
theorem dX2_addRival_9 : decode cX2_addRival 9 = .ok (.ireturn, 1) := by decide +kernel
theorem dX2_addRival_10 : decode cX2_addRival 10 = .ok (.aload_n 0, 1) := by decide +kernel
theorem dX2_addRival_11 : decode cX2_addRival 11 = .ok (.getfield 25, 3) := by decide +kernel
theorem dX2_addRival_14 : decode cX2_addRival 14 = .ok (.aload_n 0, 1) := by decide +kernel
theorem dX2_addRival_15 : decode cX2_addRival 15 = .ok (.getfield 36, 3) := by decide +kernel
theorem dX2_addRival_18 : decode cX2_addRival 18 = .ok (.iload_n 1, 1) := by decide +kernel
theorem dX2_addRival_19 : decode cX2_addRival 19 = .ok (.iastore, 1) := by decide +kernel
theorem dX2_addRival_20 : decode cX2_addRival 20 = .ok (.aload_n 0, 1) := by decide +kernel
theorem dX2_addRival_21 : decode cX2_addRival 21 = .ok (.dup, 1) := by decide +kernel
theorem dX2_addRival_22 : decode cX2_addRival 22 = .ok (.getfield 36, 3) := by decide +kernel
theorem dX2_addRival_25 : decode cX2_addRival 25 = .ok (.iconst 1, 1) := by decide +kernel
theorem dX2_addRival_26 : decode cX2_addRival 26 = .ok (.iadd, 1) := by decide +kernel
theorem dX2_addRival_27 : decode cX2_addRival 27 = .ok (.putfield 36, 3) := by decide +kernel
theorem dX2_addRival_30 : decode cX2_addRival 30 = .ok (.iconst 1, 1) := by decide +kernel
theorem dX2_addRival_31 : decode cX2_addRival 31 = .ok (.ireturn, 1) := by decide +kernel
theorem dX2_namable_0 : decode cX2_namable 0 = .ok (.aload_n 0, 1) := by decide +kernel
theorem dX2_namable_1 : decode cX2_namable 1 = .ok (.getfield 39, 3) := by decide +kernel
theorem dX2_namable_4 : decode cX2_namable 4 = .ok (.iconst 2, 1) := by decide +kernel
theorem dX2_namable_5 : decode cX2_namable 5 = .ok (.if_icmp .ne 9, 3) := by decide +kernel
theorem dX2_namable_8 : decode cX2_namable 8 = .ok (.iconst 1, 1) := by decide +kernel
theorem dX2_namable_9 : decode cX2_namable 9 = .ok (.iload_n 1, 1) := by decide +kernel
theorem dX2_namable_10 : decode cX2_namable 10 = .ok (.ishl, 1) := by decide +kernel
theorem dX2_namable_11 : decode cX2_namable 11 = .ok (.iconst (-1), 1) := by decide +kernel
theorem dX2_namable_12 : decode cX2_namable 12 = .ok (.ixor, 1) := by decide +kernel
theorem dX2_namable_13 : decode cX2_namable 13 = .ok (.ireturn, 1) := by decide +kernel
theorem dX2_namable_14 : decode cX2_namable 14 = .ok (.aload_n 0, 1) := by decide +kernel
theorem dX2_namable_15 : decode cX2_namable 15 = .ok (.getfield 39, 3) := by decide +kernel
theorem dX2_namable_18 : decode cX2_namable 18 = .ok (.iconst 1, 1) := by decide +kernel
theorem dX2_namable_19 : decode cX2_namable 19 = .ok (.if_icmp .ne 26, 3) := by decide +kernel
theorem dX2_namable_22 : decode cX2_namable 22 = .ok (.aload_n 0, 1) := by decide +kernel
theorem dX2_namable_23 : decode cX2_namable 23 = .ok (.getfield 21, 3) := by decide +kernel
theorem dX2_namable_26 : decode cX2_namable 26 = .ok (.iload_n 1, 1) := by decide +kernel
theorem dX2_namable_27 : decode cX2_namable 27 = .ok (.invokevirtual 72, 3) := by decide +kernel
theorem dX2_namable_30 : decode cX2_namable 30 = .ok (.ifCond .eq 15, 3) := by decide +kernel
theorem dX2_namable_33 : decode cX2_namable 33 = .ok (.aload_n 0, 1) := by decide +kernel
theorem dX2_namable_34 : decode cX2_namable 34 = .ok (.getfield 21, 3) := by decide +kernel
theorem dX2_namable_37 : decode cX2_namable 37 = .ok (.getfield 75, 3) := by decide +kernel
theorem dX2_namable_40 : decode cX2_namable 40 = .ok (.iload_n 1, 1) := by decide +kernel
theorem dX2_namable_41 : decode cX2_namable 41 = .ok (.iaload, 1) := by decide +kernel
theorem dX2_namable_42 : decode cX2_namable 42 = .ok (.goto 4, 3) := by decide +kernel
theorem dX2_namable_45 : decode cX2_namable 45 = .ok (.iconst 0, 1) := by decide +kernel
theorem dX2_namable_46 : decode cX2_namable 46 = .ok (.ireturn, 1) := by decide +kernel
theorem dX2_leastAtRival_0 : decode cX2_leastAtRival 0 = .ok (.ldc 78, 2) := by decide +kernel
theorem dX2_leastAtRival_2 : decode cX2_leastAtRival 2 = .ok (.istore_n 2, 1) := by decide +kernel
theorem dX2_leastAtRival_3 : decode cX2_leastAtRival 3 = .ok (.aload_n 0, 1) := by decide +kernel
theorem dX2_leastAtRival_4 : decode cX2_leastAtRival 4 = .ok (.getfield 21, 3) := by decide +kernel
theorem dX2_leastAtRival_7 : decode cX2_leastAtRival 7 = .ok (.iload_n 1, 1) := by decide +kernel
theorem dX2_leastAtRival_8 : decode cX2_leastAtRival 8 = .ok (.invokevirtual 72, 3) := by decide +kernel
theorem dX2_leastAtRival_11 : decode cX2_leastAtRival 11 = .ok (.ifCond .eq 15, 3) := by decide +kernel
theorem dX2_leastAtRival_14 : decode cX2_leastAtRival 14 = .ok (.aload_n 0, 1) := by decide +kernel
theorem dX2_leastAtRival_15 : decode cX2_leastAtRival 15 = .ok (.getfield 21, 3) := by decide +kernel
theorem dX2_leastAtRival_18 : decode cX2_leastAtRival 18 = .ok (.getfield 79, 3) := by decide +kernel
theorem dX2_leastAtRival_21 : decode cX2_leastAtRival 21 = .ok (.iload_n 1, 1) := by decide +kernel
theorem dX2_leastAtRival_22 : decode cX2_leastAtRival 22 = .ok (.iaload, 1) := by decide +kernel
theorem dX2_leastAtRival_23 : decode cX2_leastAtRival 23 = .ok (.goto 4, 3) := by decide +kernel
theorem dX2_leastAtRival_26 : decode cX2_leastAtRival 26 = .ok (.iconst 0, 1) := by decide +kernel
theorem dX2_leastAtRival_27 : decode cX2_leastAtRival 27 = .ok (.istore_n 3, 1) := by decide +kernel
theorem dX2_leastAtRival_28 : decode cX2_leastAtRival 28 = .ok (.iconst 0, 1) := by decide +kernel
theorem dX2_leastAtRival_29 : decode cX2_leastAtRival 29 = .ok (.istore 4, 2) := by decide +kernel
theorem dX2_leastAtRival_31 : decode cX2_leastAtRival 31 = .ok (.iload 4, 2) := by decide +kernel
theorem dX2_leastAtRival_33 : decode cX2_leastAtRival 33 = .ok (.aload_n 0, 1) := by decide +kernel
theorem dX2_leastAtRival_34 : decode cX2_leastAtRival 34 = .ok (.getfield 36, 3) := by decide +kernel
theorem dX2_leastAtRival_37 : decode cX2_leastAtRival 37 = .ok (.if_icmp .ge 30, 3) := by decide +kernel
theorem dX2_leastAtRival_40 : decode cX2_leastAtRival 40 = .ok (.iload_n 2, 1) := by decide +kernel
theorem dX2_leastAtRival_41 : decode cX2_leastAtRival 41 = .ok (.aload_n 0, 1) := by decide +kernel
theorem dX2_leastAtRival_42 : decode cX2_leastAtRival 42 = .ok (.getfield 21, 3) := by decide +kernel
theorem dX2_leastAtRival_45 : decode cX2_leastAtRival 45 = .ok (.iload_n 1, 1) := by decide +kernel
theorem dX2_leastAtRival_46 : decode cX2_leastAtRival 46 = .ok (.iload_n 3, 1) := by decide +kernel
theorem dX2_leastAtRival_47 : decode cX2_leastAtRival 47 = .ok (.aload_n 0, 1) := by decide +kernel
theorem dX2_leastAtRival_48 : decode cX2_leastAtRival 48 = .ok (.getfield 25, 3) := by decide +kernel
theorem dX2_leastAtRival_51 : decode cX2_leastAtRival 51 = .ok (.iload 4, 2) := by decide +kernel
theorem dX2_leastAtRival_53 : decode cX2_leastAtRival 53 = .ok (.iaload, 1) := by decide +kernel
theorem dX2_leastAtRival_54 : decode cX2_leastAtRival 54 = .ok (.invokevirtual 82, 3) := by decide +kernel
theorem dX2_leastAtRival_57 : decode cX2_leastAtRival 57 = .ok (.invokestatic 86, 3) := by decide +kernel
theorem dX2_leastAtRival_60 : decode cX2_leastAtRival 60 = .ok (.istore_n 2, 1) := by decide +kernel
theorem dX2_leastAtRival_61 : decode cX2_leastAtRival 61 = .ok (.iinc 4 1, 3) := by decide +kernel
theorem dX2_leastAtRival_64 : decode cX2_leastAtRival 64 = .ok (.goto (-33), 3) := by decide +kernel
theorem dX2_leastAtRival_67 : decode cX2_leastAtRival 67 = .ok (.iload_n 2, 1) := by decide +kernel
theorem dX2_leastAtRival_68 : decode cX2_leastAtRival 68 = .ok (.ireturn, 1) := by decide +kernel
theorem dX3_init_0 : decode cX3_init 0 = .ok (.aload_n 0, 1) := by decide +kernel
theorem dX3_init_1 : decode cX3_init 1 = .ok (.invokespecial 3, 3) := by decide +kernel
theorem dX3_init_4 : decode cX3_init 4 = .ok (.aload_n 0, 1) := by decide +kernel
theorem dX3_init_5 : decode cX3_init 5 = .ok (.bipush 7, 2) := by decide +kernel
theorem dX3_init_7 : decode cX3_init 7 = .ok (.newarray .int, 2) := by decide +kernel
theorem dX3_init_9 : decode cX3_init 9 = .ok (.putfield 9, 3) := by decide +kernel
theorem dX3_init_12 : decode cX3_init 12 = .ok (.aload_n 0, 1) := by decide +kernel
theorem dX3_init_13 : decode cX3_init 13 = .ok (.bipush 7, 2) := by decide +kernel
theorem dX3_init_15 : decode cX3_init 15 = .ok (.newarray .int, 2) := by decide +kernel
theorem dX3_init_17 : decode cX3_init 17 = .ok (.putfield 15, 3) := by decide +kernel
theorem dX3_init_20 : decode cX3_init 20 = .ok (.aload_n 0, 1) := by decide +kernel
theorem dX3_init_21 : decode cX3_init 21 = .ok (.bipush 7, 2) := by decide +kernel
theorem dX3_init_23 : decode cX3_init 23 = .ok (.newarray .int, 2) := by decide +kernel
theorem dX3_init_25 : decode cX3_init 25 = .ok (.putfield 18, 3) := by decide +kernel
theorem dX3_init_28 : decode cX3_init 28 = .ok (.aload_n 0, 1) := by decide +kernel
theorem dX3_init_29 : decode cX3_init 29 = .ok (.bipush 7, 2) := by decide +kernel
theorem dX3_init_31 : decode cX3_init 31 = .ok (.newarray .int, 2) := by decide +kernel
theorem dX3_init_33 : decode cX3_init 33 = .ok (.putfield 21, 3) := by decide +kernel
theorem dX3_init_36 : decode cX3_init 36 = .ok (.aload_n 0, 1) := by decide +kernel
theorem dX3_init_37 : decode cX3_init 37 = .ok (.bipush 7, 2) := by decide +kernel
theorem dX3_init_39 : decode cX3_init 39 = .ok (.newarray .int, 2) := by decide +kernel
theorem dX3_init_41 : decode cX3_init 41 = .ok (.putfield 24, 3) := by decide +kernel
theorem dX3_init_44 : decode cX3_init 44 = .ok (.return_, 1) := by decide +kernel
theorem dX3_pass_0 : decode cX3_pass 0 = .ok (.aload_n 0, 1) := by decide +kernel
theorem dX3_pass_1 : decode cX3_pass 1 = .ok (.iconst 0, 1) := by decide +kernel
theorem dX3_pass_2 : decode cX3_pass 2 = .ok (.putfield 27, 3) := by decide +kernel
theorem dX3_pass_5 : decode cX3_pass 5 = .ok (.aload_n 0, 1) := by decide +kernel
theorem dX3_pass_6 : decode cX3_pass 6 = .ok (.iconst 0, 1) := by decide +kernel
theorem dX3_pass_7 : decode cX3_pass 7 = .ok (.putfield 31, 3) := by decide +kernel
theorem dX3_pass_10 : decode cX3_pass 10 = .ok (.aload_n 0, 1) := by decide +kernel
theorem dX3_pass_11 : decode cX3_pass 11 = .ok (.iconst 0, 1) := by decide +kernel
theorem dX3_pass_12 : decode cX3_pass 12 = .ok (.putfield 34, 3) := by decide +kernel
theorem dX3_pass_15 : decode cX3_pass 15 = .ok (.iconst 0, 1) := by decide +kernel
theorem dX3_pass_16 : decode cX3_pass 16 = .ok (.istore_n 3, 1) := by decide +kernel
theorem dX3_pass_17 : decode cX3_pass 17 = .ok (.iload_n 3, 1) := by decide +kernel
theorem dX3_pass_18 : decode cX3_pass 18 = .ok (.bipush 7, 2) := by decide +kernel
theorem dX3_pass_20 : decode cX3_pass 20 = .ok (.if_icmp .ge 16, 3) := by decide +kernel
theorem dX3_pass_23 : decode cX3_pass 23 = .ok (.aload_n 0, 1) := by decide +kernel
theorem dX3_pass_24 : decode cX3_pass 24 = .ok (.getfield 24, 3) := by decide +kernel
theorem dX3_pass_27 : decode cX3_pass 27 = .ok (.iload_n 3, 1) := by decide +kernel
theorem dX3_pass_28 : decode cX3_pass 28 = .ok (.iconst 0, 1) := by decide +kernel
theorem dX3_pass_29 : decode cX3_pass 29 = .ok (.iastore, 1) := by decide +kernel
theorem dX3_pass_30 : decode cX3_pass 30 = .ok (.iinc 3 1, 3) := by decide +kernel
theorem dX3_pass_33 : decode cX3_pass 33 = .ok (.goto (-16), 3) := by decide +kernel
theorem dX3_pass_36 : decode cX3_pass 36 = .ok (.aload_n 1, 1) := by decide +kernel
theorem dX3_pass_37 : decode cX3_pass 37 = .ok (.getfield 37, 3) := by decide +kernel
theorem dX3_pass_40 : decode cX3_pass 40 = .ok (.invokevirtual 43, 3) := by decide +kernel
theorem dX3_pass_43 : decode cX3_pass 43 = .ok (.istore_n 3, 1) := by decide +kernel
theorem dX3_pass_44 : decode cX3_pass 44 = .ok (.iconst 0, 1) := by decide +kernel
theorem dX3_pass_45 : decode cX3_pass 45 = .ok (.istore 4, 2) := by decide +kernel
theorem dX3_pass_47 : decode cX3_pass 47 = .ok (.iload 4, 2) := by decide +kernel
theorem dX3_pass_49 : decode cX3_pass 49 = .ok (.bipush 30, 2) := by decide +kernel
theorem dX3_pass_51 : decode cX3_pass 51 = .ok (.if_icmp .ge 32, 3) := by decide +kernel
theorem dX3_pass_54 : decode cX3_pass 54 = .ok (.aload_n 0, 1) := by decide +kernel
theorem dX3_pass_55 : decode cX3_pass 55 = .ok (.getfield 27, 3) := by decide +kernel
theorem dX3_pass_58 : decode cX3_pass 58 = .ok (.iload_n 3, 1) := by decide +kernel
theorem dX3_pass_59 : decode cX3_pass 59 = .ok (.if_icmp .eq 24, 3) := by decide +kernel
theorem dX3_pass_62 : decode cX3_pass 62 = .ok (.aload_n 0, 1) := by decide +kernel
theorem dX3_pass_63 : decode cX3_pass 63 = .ok (.getfield 31, 3) := by decide +kernel
theorem dX3_pass_66 : decode cX3_pass 66 = .ok (.iload_n 2, 1) := by decide +kernel
theorem dX3_pass_67 : decode cX3_pass 67 = .ok (.if_icmp .ge 16, 3) := by decide +kernel
theorem dX3_pass_70 : decode cX3_pass 70 = .ok (.aload_n 0, 1) := by decide +kernel
theorem dX3_pass_71 : decode cX3_pass 71 = .ok (.aload_n 1, 1) := by decide +kernel
theorem dX3_pass_72 : decode cX3_pass 72 = .ok (.iload 4, 2) := by decide +kernel
theorem dX3_pass_74 : decode cX3_pass 74 = .ok (.invokevirtual 49, 3) := by decide +kernel
theorem dX3_pass_77 : decode cX3_pass 77 = .ok (.iinc 4 1, 3) := by decide +kernel
theorem dX3_pass_80 : decode cX3_pass 80 = .ok (.goto (-33), 3) := by decide +kernel
theorem dX3_pass_83 : decode cX3_pass 83 = .ok (.return_, 1) := by decide +kernel
theorem dX3_fillBeds_0 : decode cX3_fillBeds 0 = .ok (.aload_n 1, 1) := by decide +kernel
theorem dX3_fillBeds_1 : decode cX3_fillBeds 1 = .ok (.getfield 37, 3) := by decide +kernel
theorem dX3_fillBeds_4 : decode cX3_fillBeds 4 = .ok (.iload_n 2, 1) := by decide +kernel
theorem dX3_fillBeds_5 : decode cX3_fillBeds 5 = .ok (.invokevirtual 53, 3) := by decide +kernel
theorem dX3_fillBeds_8 : decode cX3_fillBeds 8 = .ok (.aload_n 0, 1) := by decide +kernel
theorem dX3_fillBeds_9 : decode cX3_fillBeds 9 = .ok (.getfield 27, 3) := by decide +kernel
theorem dX3_fillBeds_12 : decode cX3_fillBeds 12 = .ok (.iconst (-1), 1) := by decide +kernel
theorem dX3_fillBeds_13 : decode cX3_fillBeds 13 = .ok (.ixor, 1) := by decide +kernel
theorem dX3_fillBeds_14 : decode cX3_fillBeds 14 = .ok (.iand, 1) := by decide +kernel
theorem dX3_fillBeds_15 : decode cX3_fillBeds 15 = .ok (.istore_n 3, 1) := by decide +kernel
theorem dX3_fillBeds_16 : decode cX3_fillBeds 16 = .ok (.iconst 0, 1) := by decide +kernel
theorem dX3_fillBeds_17 : decode cX3_fillBeds 17 = .ok (.istore 4, 2) := by decide +kernel
theorem dX3_fillBeds_19 : decode cX3_fillBeds 19 = .ok (.iload 4, 2) := by decide +kernel
theorem dX3_fillBeds_21 : decode cX3_fillBeds 21 = .ok (.aload_n 1, 1) := by decide +kernel
theorem dX3_fillBeds_22 : decode cX3_fillBeds 22 = .ok (.getfield 57, 3) := by decide +kernel
theorem dX3_fillBeds_25 : decode cX3_fillBeds 25 = .ok (.getfield 61, 3) := by decide +kernel
theorem dX3_fillBeds_28 : decode cX3_fillBeds 28 = .ok (.if_icmp .ge 157, 3) := by decide +kernel
theorem dX3_fillBeds_31 : decode cX3_fillBeds 31 = .ok (.iload_n 3, 1) := by decide +kernel
theorem dX3_fillBeds_32 : decode cX3_fillBeds 32 = .ok (.ifCond .eq 153, 3) := by decide +kernel
theorem dX3_fillBeds_35 : decode cX3_fillBeds 35 = .ok (.aload_n 0, 1) := by decide +kernel
theorem dX3_fillBeds_36 : decode cX3_fillBeds 36 = .ok (.aload_n 1, 1) := by decide +kernel
theorem dX3_fillBeds_37 : decode cX3_fillBeds 37 = .ok (.getfield 37, 3) := by decide +kernel
theorem dX3_fillBeds_40 : decode cX3_fillBeds 40 = .ok (.iload_n 3, 1) := by decide +kernel
theorem dX3_fillBeds_41 : decode cX3_fillBeds 41 = .ok (.invokevirtual 66, 3) := by decide +kernel
theorem dX3_fillBeds_44 : decode cX3_fillBeds 44 = .ok (.istore 5, 2) := by decide +kernel
theorem dX3_fillBeds_46 : decode cX3_fillBeds 46 = .ok (.aload_n 1, 1) := by decide +kernel
theorem dX3_fillBeds_47 : decode cX3_fillBeds 47 = .ok (.getfield 57, 3) := by decide +kernel
theorem dX3_fillBeds_50 : decode cX3_fillBeds 50 = .ok (.iload 4, 2) := by decide +kernel
theorem dX3_fillBeds_52 : decode cX3_fillBeds 52 = .ok (.iload_n 2, 1) := by decide +kernel
theorem dX3_fillBeds_53 : decode cX3_fillBeds 53 = .ok (.invokevirtual 70, 3) := by decide +kernel
theorem dX3_fillBeds_56 : decode cX3_fillBeds 56 = .ok (.istore 6, 2) := by decide +kernel
theorem dX3_fillBeds_58 : decode cX3_fillBeds 58 = .ok (.aload_n 0, 1) := by decide +kernel
theorem dX3_fillBeds_59 : decode cX3_fillBeds 59 = .ok (.aload_n 1, 1) := by decide +kernel
theorem dX3_fillBeds_60 : decode cX3_fillBeds 60 = .ok (.iload 5, 2) := by decide +kernel
theorem dX3_fillBeds_62 : decode cX3_fillBeds 62 = .ok (.iload_n 3, 1) := by decide +kernel
theorem dX3_fillBeds_63 : decode cX3_fillBeds 63 = .ok (.iload_n 2, 1) := by decide +kernel
theorem dX3_fillBeds_64 : decode cX3_fillBeds 64 = .ok (.iload 6, 2) := by decide +kernel
theorem dX3_fillBeds_66 : decode cX3_fillBeds 66 = .ok (.invokevirtual 74, 3) := by decide +kernel
theorem dX3_fillBeds_69 : decode cX3_fillBeds 69 = .ok (.istore 7, 2) := by decide +kernel
theorem dX3_fillBeds_71 : decode cX3_fillBeds 71 = .ok (.aload_n 1, 1) := by decide +kernel
theorem dX3_fillBeds_72 : decode cX3_fillBeds 72 = .ok (.getfield 37, 3) := by decide +kernel
theorem dX3_fillBeds_75 : decode cX3_fillBeds 75 = .ok (.iload 7, 2) := by decide +kernel
theorem dX3_fillBeds_77 : decode cX3_fillBeds 77 = .ok (.invokevirtual 78, 3) := by decide +kernel
theorem dX3_fillBeds_80 : decode cX3_fillBeds 80 = .ok (.ifCond .ne 4, 3) := by decide +kernel
theorem dX3_fillBeds_83 : decode cX3_fillBeds 83 = .ok (.return_, 1) := by decide +kernel
theorem dX3_fillBeds_84 : decode cX3_fillBeds 84 = .ok (.aload_n 0, 1) := by decide +kernel
theorem dX3_fillBeds_85 : decode cX3_fillBeds 85 = .ok (.getfield 9, 3) := by decide +kernel
theorem dX3_fillBeds_88 : decode cX3_fillBeds 88 = .ok (.iload 7, 2) := by decide +kernel
theorem dX3_fillBeds_90 : decode cX3_fillBeds 90 = .ok (.iload_n 2, 1) := by decide +kernel
theorem dX3_fillBeds_91 : decode cX3_fillBeds 91 = .ok (.iastore, 1) := by decide +kernel
theorem dX3_fillBeds_92 : decode cX3_fillBeds 92 = .ok (.aload_n 0, 1) := by decide +kernel
theorem dX3_fillBeds_93 : decode cX3_fillBeds 93 = .ok (.getfield 15, 3) := by decide +kernel
theorem dX3_fillBeds_96 : decode cX3_fillBeds 96 = .ok (.iload 7, 2) := by decide +kernel
theorem dX3_fillBeds_98 : decode cX3_fillBeds 98 = .ok (.iload 4, 2) := by decide +kernel
theorem dX3_fillBeds_100 : decode cX3_fillBeds 100 = .ok (.iastore, 1) := by decide +kernel
theorem dX3_fillBeds_101 : decode cX3_fillBeds 101 = .ok (.aload_n 0, 1) := by decide +kernel
theorem dX3_fillBeds_102 : decode cX3_fillBeds 102 = .ok (.getfield 18, 3) := by decide +kernel
theorem dX3_fillBeds_105 : decode cX3_fillBeds 105 = .ok (.iload 7, 2) := by decide +kernel
theorem dX3_fillBeds_107 : decode cX3_fillBeds 107 = .ok (.aload_n 1, 1) := by decide +kernel
theorem dX3_fillBeds_108 : decode cX3_fillBeds 108 = .ok (.getfield 37, 3) := by decide +kernel
theorem dX3_fillBeds_111 : decode cX3_fillBeds 111 = .ok (.iload 7, 2) := by decide +kernel
theorem dX3_fillBeds_113 : decode cX3_fillBeds 113 = .ok (.iload_n 2, 1) := by decide +kernel
theorem dX3_fillBeds_114 : decode cX3_fillBeds 114 = .ok (.iload 6, 2) := by decide +kernel
theorem dX3_fillBeds_116 : decode cX3_fillBeds 116 = .ok (.invokevirtual 82, 3) := by decide +kernel
theorem dX3_fillBeds_119 : decode cX3_fillBeds 119 = .ok (.iastore, 1) := by decide +kernel
theorem dX3_fillBeds_120 : decode cX3_fillBeds 120 = .ok (.aload_n 0, 1) := by decide +kernel
theorem dX3_fillBeds_121 : decode cX3_fillBeds 121 = .ok (.getfield 21, 3) := by decide +kernel
theorem dX3_fillBeds_124 : decode cX3_fillBeds 124 = .ok (.iload 7, 2) := by decide +kernel
theorem dX3_fillBeds_126 : decode cX3_fillBeds 126 = .ok (.iload 7, 2) := by decide +kernel
theorem dX3_fillBeds_128 : decode cX3_fillBeds 128 = .ok (.iload 5, 2) := by decide +kernel
theorem dX3_fillBeds_130 : decode cX3_fillBeds 130 = .ok (.if_icmp .ne 8, 3) := by decide +kernel
theorem dX3_fillBeds_133 : decode cX3_fillBeds 133 = .ok (.bipush (-4), 2) := by decide +kernel
theorem dX3_fillBeds_135 : decode cX3_fillBeds 135 = .ok (.goto 5, 3) := by decide +kernel
theorem dX3_fillBeds_138 : decode cX3_fillBeds 138 = .ok (.iload 5, 2) := by decide +kernel
theorem dX3_fillBeds_140 : decode cX3_fillBeds 140 = .ok (.iastore, 1) := by decide +kernel
theorem dX3_fillBeds_141 : decode cX3_fillBeds 141 = .ok (.aload_n 0, 1) := by decide +kernel
theorem dX3_fillBeds_142 : decode cX3_fillBeds 142 = .ok (.dup, 1) := by decide +kernel
theorem dX3_fillBeds_143 : decode cX3_fillBeds 143 = .ok (.getfield 31, 3) := by decide +kernel
theorem dX3_fillBeds_146 : decode cX3_fillBeds 146 = .ok (.aload_n 0, 1) := by decide +kernel
theorem dX3_fillBeds_147 : decode cX3_fillBeds 147 = .ok (.getfield 18, 3) := by decide +kernel
theorem dX3_fillBeds_150 : decode cX3_fillBeds 150 = .ok (.iload 7, 2) := by decide +kernel
theorem dX3_fillBeds_152 : decode cX3_fillBeds 152 = .ok (.iaload, 1) := by decide +kernel
theorem dX3_fillBeds_153 : decode cX3_fillBeds 153 = .ok (.iadd, 1) := by decide +kernel
theorem dX3_fillBeds_154 : decode cX3_fillBeds 154 = .ok (.putfield 31, 3) := by decide +kernel
theorem dX3_fillBeds_157 : decode cX3_fillBeds 157 = .ok (.aload_n 0, 1) := by decide +kernel
theorem dX3_fillBeds_158 : decode cX3_fillBeds 158 = .ok (.dup, 1) := by decide +kernel
theorem dX3_fillBeds_159 : decode cX3_fillBeds 159 = .ok (.getfield 27, 3) := by decide +kernel
theorem dX3_fillBeds_162 : decode cX3_fillBeds 162 = .ok (.iconst 1, 1) := by decide +kernel
theorem dX3_fillBeds_163 : decode cX3_fillBeds 163 = .ok (.iload 7, 2) := by decide +kernel
theorem dX3_fillBeds_165 : decode cX3_fillBeds 165 = .ok (.ishl, 1) := by decide +kernel
theorem dX3_fillBeds_166 : decode cX3_fillBeds 166 = .ok (.ior, 1) := by decide +kernel
theorem dX3_fillBeds_167 : decode cX3_fillBeds 167 = .ok (.putfield 27, 3) := by decide +kernel
theorem dX3_fillBeds_170 : decode cX3_fillBeds 170 = .ok (.iload_n 3, 1) := by decide +kernel
theorem dX3_fillBeds_171 : decode cX3_fillBeds 171 = .ok (.iconst 1, 1) := by decide +kernel
theorem dX3_fillBeds_172 : decode cX3_fillBeds 172 = .ok (.iload 7, 2) := by decide +kernel
theorem dX3_fillBeds_174 : decode cX3_fillBeds 174 = .ok (.ishl, 1) := by decide +kernel
theorem dX3_fillBeds_175 : decode cX3_fillBeds 175 = .ok (.iconst (-1), 1) := by decide +kernel
theorem dX3_fillBeds_176 : decode cX3_fillBeds 176 = .ok (.ixor, 1) := by decide +kernel
theorem dX3_fillBeds_177 : decode cX3_fillBeds 177 = .ok (.iand, 1) := by decide +kernel
theorem dX3_fillBeds_178 : decode cX3_fillBeds 178 = .ok (.istore_n 3, 1) := by decide +kernel
theorem dX3_fillBeds_179 : decode cX3_fillBeds 179 = .ok (.iinc 4 1, 3) := by decide +kernel
theorem dX3_fillBeds_182 : decode cX3_fillBeds 182 = .ok (.goto (-163), 3) := by decide +kernel
theorem dX3_fillBeds_185 : decode cX3_fillBeds 185 = .ok (.return_, 1) := by decide +kernel
theorem dX3_callFirst_0 : decode cX3_callFirst 0 = .ok (.iconst 0, 1) := by decide +kernel
theorem dX3_callFirst_1 : decode cX3_callFirst 1 = .ok (.istore_n 3, 1) := by decide +kernel
theorem dX3_callFirst_2 : decode cX3_callFirst 2 = .ok (.iload_n 3, 1) := by decide +kernel
theorem dX3_callFirst_3 : decode cX3_callFirst 3 = .ok (.aload_n 1, 1) := by decide +kernel
theorem dX3_callFirst_4 : decode cX3_callFirst 4 = .ok (.getfield 86, 3) := by decide +kernel
theorem dX3_callFirst_7 : decode cX3_callFirst 7 = .ok (.if_icmp .ge 61, 3) := by decide +kernel
theorem dX3_callFirst_10 : decode cX3_callFirst 10 = .ok (.aload_n 1, 1) := by decide +kernel
theorem dX3_callFirst_11 : decode cX3_callFirst 11 = .ok (.getfield 89, 3) := by decide +kernel
theorem dX3_callFirst_14 : decode cX3_callFirst 14 = .ok (.iload_n 3, 1) := by decide +kernel
theorem dX3_callFirst_15 : decode cX3_callFirst 15 = .ok (.iaload, 1) := by decide +kernel
theorem dX3_callFirst_16 : decode cX3_callFirst 16 = .ok (.istore 4, 2) := by decide +kernel
theorem dX3_callFirst_18 : decode cX3_callFirst 18 = .ok (.aload_n 1, 1) := by decide +kernel
theorem dX3_callFirst_19 : decode cX3_callFirst 19 = .ok (.iload 4, 2) := by decide +kernel
theorem dX3_callFirst_21 : decode cX3_callFirst 21 = .ok (.invokevirtual 78, 3) := by decide +kernel
theorem dX3_callFirst_24 : decode cX3_callFirst 24 = .ok (.ifCond .eq 38, 3) := by decide +kernel
theorem dX3_callFirst_27 : decode cX3_callFirst 27 = .ok (.iload_n 2, 1) := by decide +kernel
theorem dX3_callFirst_28 : decode cX3_callFirst 28 = .ok (.iload 4, 2) := by decide +kernel
theorem dX3_callFirst_30 : decode cX3_callFirst 30 = .ok (.invokestatic 92, 3) := by decide +kernel
theorem dX3_callFirst_33 : decode cX3_callFirst 33 = .ok (.ifCond .eq 29, 3) := by decide +kernel
theorem dX3_callFirst_36 : decode cX3_callFirst 36 = .ok (.aload_n 0, 1) := by decide +kernel
theorem dX3_callFirst_37 : decode cX3_callFirst 37 = .ok (.aload_n 0, 1) := by decide +kernel
theorem dX3_callFirst_38 : decode cX3_callFirst 38 = .ok (.getfield 34, 3) := by decide +kernel
theorem dX3_callFirst_41 : decode cX3_callFirst 41 = .ok (.iload_n 3, 1) := by decide +kernel
theorem dX3_callFirst_42 : decode cX3_callFirst 42 = .ok (.invokestatic 96, 3) := by decide +kernel
theorem dX3_callFirst_45 : decode cX3_callFirst 45 = .ok (.putfield 34, 3) := by decide +kernel
theorem dX3_callFirst_48 : decode cX3_callFirst 48 = .ok (.aload_n 0, 1) := by decide +kernel
theorem dX3_callFirst_49 : decode cX3_callFirst 49 = .ok (.getfield 24, 3) := by decide +kernel
theorem dX3_callFirst_52 : decode cX3_callFirst 52 = .ok (.iload 4, 2) := by decide +kernel
theorem dX3_callFirst_54 : decode cX3_callFirst 54 = .ok (.dup2, 1) := by decide +kernel
theorem dX3_callFirst_55 : decode cX3_callFirst 55 = .ok (.iaload, 1) := by decide +kernel
theorem dX3_callFirst_56 : decode cX3_callFirst 56 = .ok (.iconst 1, 1) := by decide +kernel
theorem dX3_callFirst_57 : decode cX3_callFirst 57 = .ok (.iadd, 1) := by decide +kernel
theorem dX3_callFirst_58 : decode cX3_callFirst 58 = .ok (.iastore, 1) := by decide +kernel
theorem dX3_callFirst_59 : decode cX3_callFirst 59 = .ok (.iload 4, 2) := by decide +kernel
theorem dX3_callFirst_61 : decode cX3_callFirst 61 = .ok (.ireturn, 1) := by decide +kernel
theorem dX3_callFirst_62 : decode cX3_callFirst 62 = .ok (.iinc 3 1, 3) := by decide +kernel
theorem dX3_callFirst_65 : decode cX3_callFirst 65 = .ok (.goto (-63), 3) := by decide +kernel
theorem dX3_callFirst_68 : decode cX3_callFirst 68 = .ok (.bipush (-4), 2) := by decide +kernel
theorem dX3_callFirst_70 : decode cX3_callFirst 70 = .ok (.ireturn, 1) := by decide +kernel
theorem dX3_bestOf_0 : decode cX3_bestOf 0 = .ok (.aload_n 1, 1) := by decide +kernel
theorem dX3_bestOf_1 : decode cX3_bestOf 1 = .ok (.iload_n 2, 1) := by decide +kernel
theorem dX3_bestOf_2 : decode cX3_bestOf 2 = .ok (.invokevirtual 101, 3) := by decide +kernel
theorem dX3_bestOf_5 : decode cX3_bestOf 5 = .ok (.iload_n 3, 1) := by decide +kernel
theorem dX3_bestOf_6 : decode cX3_bestOf 6 = .ok (.iand, 1) := by decide +kernel
theorem dX3_bestOf_7 : decode cX3_bestOf 7 = .ok (.istore 6, 2) := by decide +kernel
theorem dX3_bestOf_9 : decode cX3_bestOf 9 = .ok (.iload_n 2, 1) := by decide +kernel
theorem dX3_bestOf_10 : decode cX3_bestOf 10 = .ok (.istore 7, 2) := by decide +kernel
theorem dX3_bestOf_12 : decode cX3_bestOf 12 = .ok (.aload_n 1, 1) := by decide +kernel
theorem dX3_bestOf_13 : decode cX3_bestOf 13 = .ok (.getfield 37, 3) := by decide +kernel
theorem dX3_bestOf_16 : decode cX3_bestOf 16 = .ok (.iload_n 2, 1) := by decide +kernel
theorem dX3_bestOf_17 : decode cX3_bestOf 17 = .ok (.iload 4, 2) := by decide +kernel
theorem dX3_bestOf_19 : decode cX3_bestOf 19 = .ok (.iload 5, 2) := by decide +kernel
theorem dX3_bestOf_21 : decode cX3_bestOf 21 = .ok (.invokevirtual 82, 3) := by decide +kernel
theorem dX3_bestOf_24 : decode cX3_bestOf 24 = .ok (.istore 8, 2) := by decide +kernel
theorem dX3_bestOf_26 : decode cX3_bestOf 26 = .ok (.iconst 0, 1) := by decide +kernel
theorem dX3_bestOf_27 : decode cX3_bestOf 27 = .ok (.istore 9, 2) := by decide +kernel
theorem dX3_bestOf_29 : decode cX3_bestOf 29 = .ok (.iload 9, 2) := by decide +kernel
theorem dX3_bestOf_31 : decode cX3_bestOf 31 = .ok (.aload_n 1, 1) := by decide +kernel
theorem dX3_bestOf_32 : decode cX3_bestOf 32 = .ok (.getfield 37, 3) := by decide +kernel
theorem dX3_bestOf_35 : decode cX3_bestOf 35 = .ok (.getfield 86, 3) := by decide +kernel
theorem dX3_bestOf_38 : decode cX3_bestOf 38 = .ok (.if_icmp .ge 49, 3) := by decide +kernel
theorem dX3_bestOf_41 : decode cX3_bestOf 41 = .ok (.iload 6, 2) := by decide +kernel
theorem dX3_bestOf_43 : decode cX3_bestOf 43 = .ok (.iload 9, 2) := by decide +kernel
theorem dX3_bestOf_45 : decode cX3_bestOf 45 = .ok (.invokestatic 92, 3) := by decide +kernel
theorem dX3_bestOf_48 : decode cX3_bestOf 48 = .ok (.ifCond .eq 33, 3) := by decide +kernel
theorem dX3_bestOf_51 : decode cX3_bestOf 51 = .ok (.aload_n 1, 1) := by decide +kernel
theorem dX3_bestOf_52 : decode cX3_bestOf 52 = .ok (.getfield 37, 3) := by decide +kernel
theorem dX3_bestOf_55 : decode cX3_bestOf 55 = .ok (.iload 9, 2) := by decide +kernel
theorem dX3_bestOf_57 : decode cX3_bestOf 57 = .ok (.iload 4, 2) := by decide +kernel
theorem dX3_bestOf_59 : decode cX3_bestOf 59 = .ok (.iload 5, 2) := by decide +kernel
theorem dX3_bestOf_61 : decode cX3_bestOf 61 = .ok (.invokevirtual 82, 3) := by decide +kernel
theorem dX3_bestOf_64 : decode cX3_bestOf 64 = .ok (.istore 10, 2) := by decide +kernel
theorem dX3_bestOf_66 : decode cX3_bestOf 66 = .ok (.iload 10, 2) := by decide +kernel
theorem dX3_bestOf_68 : decode cX3_bestOf 68 = .ok (.iload 8, 2) := by decide +kernel
theorem dX3_bestOf_70 : decode cX3_bestOf 70 = .ok (.if_icmp .ge 11, 3) := by decide +kernel
theorem dX3_bestOf_73 : decode cX3_bestOf 73 = .ok (.iload 10, 2) := by decide +kernel
theorem dX3_bestOf_75 : decode cX3_bestOf 75 = .ok (.istore 8, 2) := by decide +kernel
theorem dX3_bestOf_77 : decode cX3_bestOf 77 = .ok (.iload 9, 2) := by decide +kernel
theorem dX3_bestOf_79 : decode cX3_bestOf 79 = .ok (.istore 7, 2) := by decide +kernel
theorem dX3_bestOf_81 : decode cX3_bestOf 81 = .ok (.iinc 9 1, 3) := by decide +kernel
theorem dX3_bestOf_84 : decode cX3_bestOf 84 = .ok (.goto (-55), 3) := by decide +kernel
theorem dX3_bestOf_87 : decode cX3_bestOf 87 = .ok (.iload 7, 2) := by decide +kernel
theorem dX3_bestOf_89 : decode cX3_bestOf 89 = .ok (.ireturn, 1) := by decide +kernel
theorem dX3_hasLain_0 : decode cX3_hasLain 0 = .ok (.aload_n 0, 1) := by decide +kernel
theorem dX3_hasLain_1 : decode cX3_hasLain 1 = .ok (.getfield 27, 3) := by decide +kernel
theorem dX3_hasLain_4 : decode cX3_hasLain 4 = .ok (.iload_n 1, 1) := by decide +kernel
theorem dX3_hasLain_5 : decode cX3_hasLain 5 = .ok (.invokestatic 92, 3) := by decide +kernel
theorem dX3_hasLain_8 : decode cX3_hasLain 8 = .ok (.ireturn, 1) := by decide +kernel
theorem dX3_total_0 : decode cX3_total 0 = .ok (.aload_n 0, 1) := by decide +kernel
theorem dX3_total_1 : decode cX3_total 1 = .ok (.getfield 31, 3) := by decide +kernel
theorem dX3_total_4 : decode cX3_total 4 = .ok (.bipush 50, 2) := by decide +kernel
theorem dX3_total_6 : decode cX3_total 6 = .ok (.aload_n 1, 1) := by decide +kernel
theorem dX3_total_7 : decode cX3_total 7 = .ok (.getfield 86, 3) := by decide +kernel
theorem dX3_total_10 : decode cX3_total 10 = .ok (.aload_n 0, 1) := by decide +kernel
theorem dX3_total_11 : decode cX3_total 11 = .ok (.getfield 27, 3) := by decide +kernel
theorem dX3_total_14 : decode cX3_total 14 = .ok (.invokestatic 104, 3) := by decide +kernel
theorem dX3_total_17 : decode cX3_total 17 = .ok (.isub, 1) := by decide +kernel
theorem dX3_total_18 : decode cX3_total 18 = .ok (.imul, 1) := by decide +kernel
theorem dX3_total_19 : decode cX3_total 19 = .ok (.iadd, 1) := by decide +kernel
theorem dX3_total_20 : decode cX3_total 20 = .ok (.ireturn, 1) := by decide +kernel
theorem dX3_unharmed_0 : decode cX3_unharmed 0 = .ok (.iconst 0, 1) := by decide +kernel
theorem dX3_unharmed_1 : decode cX3_unharmed 1 = .ok (.istore_n 2, 1) := by decide +kernel
theorem dX3_unharmed_2 : decode cX3_unharmed 2 = .ok (.iconst 0, 1) := by decide +kernel
theorem dX3_unharmed_3 : decode cX3_unharmed 3 = .ok (.istore_n 3, 1) := by decide +kernel
theorem dX3_unharmed_4 : decode cX3_unharmed 4 = .ok (.iload_n 3, 1) := by decide +kernel
theorem dX3_unharmed_5 : decode cX3_unharmed 5 = .ok (.aload_n 1, 1) := by decide +kernel
theorem dX3_unharmed_6 : decode cX3_unharmed 6 = .ok (.getfield 86, 3) := by decide +kernel
theorem dX3_unharmed_9 : decode cX3_unharmed 9 = .ok (.if_icmp .ge 29, 3) := by decide +kernel
theorem dX3_unharmed_12 : decode cX3_unharmed 12 = .ok (.aload_n 0, 1) := by decide +kernel
theorem dX3_unharmed_13 : decode cX3_unharmed 13 = .ok (.iload_n 3, 1) := by decide +kernel
theorem dX3_unharmed_14 : decode cX3_unharmed 14 = .ok (.invokevirtual 109, 3) := by decide +kernel
theorem dX3_unharmed_17 : decode cX3_unharmed 17 = .ok (.ifCond .eq 15, 3) := by decide +kernel
theorem dX3_unharmed_20 : decode cX3_unharmed 20 = .ok (.aload_n 0, 1) := by decide +kernel
theorem dX3_unharmed_21 : decode cX3_unharmed 21 = .ok (.getfield 18, 3) := by decide +kernel
theorem dX3_unharmed_24 : decode cX3_unharmed 24 = .ok (.iload_n 3, 1) := by decide +kernel
theorem dX3_unharmed_25 : decode cX3_unharmed 25 = .ok (.iaload, 1) := by decide +kernel
theorem dX3_unharmed_26 : decode cX3_unharmed 26 = .ok (.ifCond .ne 6, 3) := by decide +kernel
theorem dX3_unharmed_29 : decode cX3_unharmed 29 = .ok (.iinc 2 1, 3) := by decide +kernel
theorem dX3_unharmed_32 : decode cX3_unharmed 32 = .ok (.iinc 3 1, 3) := by decide +kernel
theorem dX3_unharmed_35 : decode cX3_unharmed 35 = .ok (.goto (-31), 3) := by decide +kernel
theorem dX3_unharmed_38 : decode cX3_unharmed 38 = .ok (.iload_n 2, 1) := by decide +kernel
theorem dX3_unharmed_39 : decode cX3_unharmed 39 = .ok (.ireturn, 1) := by decide +kernel
theorem dX3_greatest_0 : decode cX3_greatest 0 = .ok (.iconst 0, 1) := by decide +kernel
theorem dX3_greatest_1 : decode cX3_greatest 1 = .ok (.istore_n 2, 1) := by decide +kernel
theorem dX3_greatest_2 : decode cX3_greatest 2 = .ok (.iconst 0, 1) := by decide +kernel
theorem dX3_greatest_3 : decode cX3_greatest 3 = .ok (.istore_n 3, 1) := by decide +kernel
theorem dX3_greatest_4 : decode cX3_greatest 4 = .ok (.iload_n 3, 1) := by decide +kernel
theorem dX3_greatest_5 : decode cX3_greatest 5 = .ok (.aload_n 1, 1) := by decide +kernel
theorem dX3_greatest_6 : decode cX3_greatest 6 = .ok (.getfield 86, 3) := by decide +kernel
theorem dX3_greatest_9 : decode cX3_greatest 9 = .ok (.if_icmp .ge 28, 3) := by decide +kernel
theorem dX3_greatest_12 : decode cX3_greatest 12 = .ok (.aload_n 0, 1) := by decide +kernel
theorem dX3_greatest_13 : decode cX3_greatest 13 = .ok (.iload_n 3, 1) := by decide +kernel
theorem dX3_greatest_14 : decode cX3_greatest 14 = .ok (.invokevirtual 109, 3) := by decide +kernel
theorem dX3_greatest_17 : decode cX3_greatest 17 = .ok (.ifCond .eq 14, 3) := by decide +kernel
theorem dX3_greatest_20 : decode cX3_greatest 20 = .ok (.iload_n 2, 1) := by decide +kernel
theorem dX3_greatest_21 : decode cX3_greatest 21 = .ok (.aload_n 0, 1) := by decide +kernel
theorem dX3_greatest_22 : decode cX3_greatest 22 = .ok (.getfield 18, 3) := by decide +kernel
theorem dX3_greatest_25 : decode cX3_greatest 25 = .ok (.iload_n 3, 1) := by decide +kernel
theorem dX3_greatest_26 : decode cX3_greatest 26 = .ok (.iaload, 1) := by decide +kernel
theorem dX3_greatest_27 : decode cX3_greatest 27 = .ok (.invokestatic 96, 3) := by decide +kernel
theorem dX3_greatest_30 : decode cX3_greatest 30 = .ok (.istore_n 2, 1) := by decide +kernel
theorem dX3_greatest_31 : decode cX3_greatest 31 = .ok (.iinc 3 1, 3) := by decide +kernel
theorem dX3_greatest_34 : decode cX3_greatest 34 = .ok (.goto (-30), 3) := by decide +kernel
theorem dX3_greatest_37 : decode cX3_greatest 37 = .ok (.iload_n 2, 1) := by decide +kernel
theorem dX3_greatest_38 : decode cX3_greatest 38 = .ok (.ireturn, 1) := by decide +kernel
theorem dX3_allLainBy_0 : decode cX3_allLainBy 0 = .ok (.iconst 0, 1) := by decide +kernel
theorem dX3_allLainBy_1 : decode cX3_allLainBy 1 = .ok (.istore_n 3, 1) := by decide +kernel
theorem dX3_allLainBy_2 : decode cX3_allLainBy 2 = .ok (.iload_n 3, 1) := by decide +kernel
theorem dX3_allLainBy_3 : decode cX3_allLainBy 3 = .ok (.aload_n 1, 1) := by decide +kernel
theorem dX3_allLainBy_4 : decode cX3_allLainBy 4 = .ok (.getfield 86, 3) := by decide +kernel
theorem dX3_allLainBy_7 : decode cX3_allLainBy 7 = .ok (.if_icmp .ge 29, 3) := by decide +kernel
theorem dX3_allLainBy_10 : decode cX3_allLainBy 10 = .ok (.aload_n 0, 1) := by decide +kernel
theorem dX3_allLainBy_11 : decode cX3_allLainBy 11 = .ok (.iload_n 3, 1) := by decide +kernel
theorem dX3_allLainBy_12 : decode cX3_allLainBy 12 = .ok (.invokevirtual 109, 3) := by decide +kernel
theorem dX3_allLainBy_15 : decode cX3_allLainBy 15 = .ok (.ifCond .eq 13, 3) := by decide +kernel
theorem dX3_allLainBy_18 : decode cX3_allLainBy 18 = .ok (.aload_n 0, 1) := by decide +kernel
theorem dX3_allLainBy_19 : decode cX3_allLainBy 19 = .ok (.getfield 9, 3) := by decide +kernel
theorem dX3_allLainBy_22 : decode cX3_allLainBy 22 = .ok (.iload_n 3, 1) := by decide +kernel
theorem dX3_allLainBy_23 : decode cX3_allLainBy 23 = .ok (.iaload, 1) := by decide +kernel
theorem dX3_allLainBy_24 : decode cX3_allLainBy 24 = .ok (.iload_n 2, 1) := by decide +kernel
theorem dX3_allLainBy_25 : decode cX3_allLainBy 25 = .ok (.if_icmp .le 5, 3) := by decide +kernel
theorem dX3_allLainBy_28 : decode cX3_allLainBy 28 = .ok (.iconst 0, 1) := by decide +kernel
theorem dX3_allLainBy_29 : decode cX3_allLainBy 29 = .ok (.ireturn, 1) := by decide +kernel
theorem dX3_allLainBy_30 : decode cX3_allLainBy 30 = .ok (.iinc 3 1, 3) := by decide +kernel
theorem dX3_allLainBy_33 : decode cX3_allLainBy 33 = .ok (.goto (-31), 3) := by decide +kernel
theorem dX3_allLainBy_36 : decode cX3_allLainBy 36 = .ok (.iconst 1, 1) := by decide +kernel
theorem dX3_allLainBy_37 : decode cX3_allLainBy 37 = .ok (.ireturn, 1) := by decide +kernel
theorem dX4_init_0 : decode cX4_init 0 = .ok (.aload_n 0, 1) := by decide +kernel
theorem dX4_init_1 : decode cX4_init 1 = .ok (.invokespecial 3, 3) := by decide +kernel
theorem dX4_init_4 : decode cX4_init 4 = .ok (.aload_n 0, 1) := by decide +kernel
theorem dX4_init_5 : decode cX4_init 5 = .ok (.bipush 7, 2) := by decide +kernel
theorem dX4_init_7 : decode cX4_init 7 = .ok (.newarray .int, 2) := by decide +kernel
theorem dX4_init_9 : decode cX4_init 9 = .ok (.putfield 9, 3) := by decide +kernel
theorem dX4_init_12 : decode cX4_init 12 = .ok (.aload_n 0, 1) := by decide +kernel
theorem dX4_init_13 : decode cX4_init 13 = .ok (.bipush 7, 2) := by decide +kernel
theorem dX4_init_15 : decode cX4_init 15 = .ok (.newarray .int, 2) := by decide +kernel
theorem dX4_init_17 : decode cX4_init 17 = .ok (.putfield 15, 3) := by decide +kernel
theorem dX4_init_20 : decode cX4_init 20 = .ok (.return_, 1) := by decide +kernel
theorem dX4_search_0 : decode cX4_search 0 = .ok (.aload_n 1, 1) := by decide +kernel
theorem dX4_search_1 : decode cX4_search 1 = .ok (.getfield 18, 3) := by decide +kernel
theorem dX4_search_4 : decode cX4_search 4 = .ok (.astore_n 3, 1) := by decide +kernel
theorem dX4_search_5 : decode cX4_search 5 = .ok (.aload_n 3, 1) := by decide +kernel
theorem dX4_search_6 : decode cX4_search 6 = .ok (.getfield 24, 3) := by decide +kernel
theorem dX4_search_9 : decode cX4_search 9 = .ok (.iconst 0, 1) := by decide +kernel
theorem dX4_search_10 : decode cX4_search 10 = .ok (.aload_n 0, 1) := by decide +kernel
theorem dX4_search_11 : decode cX4_search 11 = .ok (.getfield 15, 3) := by decide +kernel
theorem dX4_search_14 : decode cX4_search 14 = .ok (.iconst 0, 1) := by decide +kernel
theorem dX4_search_15 : decode cX4_search 15 = .ok (.bipush 7, 2) := by decide +kernel
theorem dX4_search_17 : decode cX4_search 17 = .ok (.invokestatic 27, 3) := by decide +kernel
theorem dX4_search_20 : decode cX4_search 20 = .ok (.iconst 0, 1) := by decide +kernel
theorem dX4_search_21 : decode cX4_search 21 = .ok (.istore 4, 2) := by decide +kernel
theorem dX4_search_23 : decode cX4_search 23 = .ok (.iload 4, 2) := by decide +kernel
theorem dX4_search_25 : decode cX4_search 25 = .ok (.aload_n 3, 1) := by decide +kernel
theorem dX4_search_26 : decode cX4_search 26 = .ok (.getfield 33, 3) := by decide +kernel
theorem dX4_search_29 : decode cX4_search 29 = .ok (.if_icmp .ge 18, 3) := by decide +kernel
theorem dX4_search_32 : decode cX4_search 32 = .ok (.aload_n 3, 1) := by decide +kernel
theorem dX4_search_33 : decode cX4_search 33 = .ok (.getfield 24, 3) := by decide +kernel
theorem dX4_search_36 : decode cX4_search 36 = .ok (.iload 4, 2) := by decide +kernel
theorem dX4_search_38 : decode cX4_search 38 = .ok (.iload 4, 2) := by decide +kernel
theorem dX4_search_40 : decode cX4_search 40 = .ok (.iastore, 1) := by decide +kernel
theorem dX4_search_41 : decode cX4_search 41 = .ok (.iinc 4 1, 3) := by decide +kernel
theorem dX4_search_44 : decode cX4_search 44 = .ok (.goto (-21), 3) := by decide +kernel
theorem dX4_search_47 : decode cX4_search 47 = .ok (.aload_n 0, 1) := by decide +kernel
theorem dX4_search_48 : decode cX4_search 48 = .ok (.ldc 37, 2) := by decide +kernel
theorem dX4_search_50 : decode cX4_search 50 = .ok (.putfield 38, 3) := by decide +kernel
theorem dX4_search_53 : decode cX4_search 53 = .ok (.iconst 1, 1) := by decide +kernel
theorem dX4_search_54 : decode cX4_search 54 = .ok (.istore 4, 2) := by decide +kernel
theorem dX4_search_56 : decode cX4_search 56 = .ok (.iconst 0, 1) := by decide +kernel
theorem dX4_search_57 : decode cX4_search 57 = .ok (.istore 5, 2) := by decide +kernel
theorem dX4_search_59 : decode cX4_search 59 = .ok (.iload 5, 2) := by decide +kernel
theorem dX4_search_61 : decode cX4_search 61 = .ok (.sipush 5040, 3) := by decide +kernel
theorem dX4_search_64 : decode cX4_search 64 = .ok (.if_icmp .ge 70, 3) := by decide +kernel
theorem dX4_search_67 : decode cX4_search 67 = .ok (.iload 4, 2) := by decide +kernel
theorem dX4_search_69 : decode cX4_search 69 = .ok (.ifCond .eq 65, 3) := by decide +kernel
theorem dX4_search_72 : decode cX4_search 72 = .ok (.aload_n 2, 1) := by decide +kernel
theorem dX4_search_73 : decode cX4_search 73 = .ok (.aload_n 1, 1) := by decide +kernel
theorem dX4_search_74 : decode cX4_search 74 = .ok (.aload_n 0, 1) := by decide +kernel
theorem dX4_search_75 : decode cX4_search 75 = .ok (.getfield 38, 3) := by decide +kernel
theorem dX4_search_78 : decode cX4_search 78 = .ok (.invokevirtual 41, 3) := by decide +kernel
theorem dX4_search_81 : decode cX4_search 81 = .ok (.aload_n 2, 1) := by decide +kernel
theorem dX4_search_82 : decode cX4_search 82 = .ok (.aload_n 3, 1) := by decide +kernel
theorem dX4_search_83 : decode cX4_search 83 = .ok (.invokevirtual 47, 3) := by decide +kernel
theorem dX4_search_86 : decode cX4_search 86 = .ok (.istore 6, 2) := by decide +kernel
theorem dX4_search_88 : decode cX4_search 88 = .ok (.iload 6, 2) := by decide +kernel
theorem dX4_search_90 : decode cX4_search 90 = .ok (.aload_n 0, 1) := by decide +kernel
theorem dX4_search_91 : decode cX4_search 91 = .ok (.getfield 38, 3) := by decide +kernel
theorem dX4_search_94 : decode cX4_search 94 = .ok (.if_icmp .ge 24, 3) := by decide +kernel
theorem dX4_search_97 : decode cX4_search 97 = .ok (.aload_n 0, 1) := by decide +kernel
theorem dX4_search_98 : decode cX4_search 98 = .ok (.iload 6, 2) := by decide +kernel
theorem dX4_search_100 : decode cX4_search 100 = .ok (.putfield 38, 3) := by decide +kernel
theorem dX4_search_103 : decode cX4_search 103 = .ok (.aload_n 3, 1) := by decide +kernel
theorem dX4_search_104 : decode cX4_search 104 = .ok (.getfield 24, 3) := by decide +kernel
theorem dX4_search_107 : decode cX4_search 107 = .ok (.iconst 0, 1) := by decide +kernel
theorem dX4_search_108 : decode cX4_search 108 = .ok (.aload_n 0, 1) := by decide +kernel
theorem dX4_search_109 : decode cX4_search 109 = .ok (.getfield 9, 3) := by decide +kernel
theorem dX4_search_112 : decode cX4_search 112 = .ok (.iconst 0, 1) := by decide +kernel
theorem dX4_search_113 : decode cX4_search 113 = .ok (.bipush 7, 2) := by decide +kernel
theorem dX4_search_115 : decode cX4_search 115 = .ok (.invokestatic 27, 3) := by decide +kernel
theorem dX4_search_118 : decode cX4_search 118 = .ok (.aload_n 3, 1) := by decide +kernel
theorem dX4_search_119 : decode cX4_search 119 = .ok (.aload_n 2, 1) := by decide +kernel
theorem dX4_search_120 : decode cX4_search 120 = .ok (.getfield 51, 3) := by decide +kernel
theorem dX4_search_123 : decode cX4_search 123 = .ok (.invokestatic 54, 3) := by decide +kernel
theorem dX4_search_126 : decode cX4_search 126 = .ok (.istore 4, 2) := by decide +kernel
theorem dX4_search_128 : decode cX4_search 128 = .ok (.iinc 5 1, 3) := by decide +kernel
theorem dX4_search_131 : decode cX4_search 131 = .ok (.goto (-72), 3) := by decide +kernel
theorem dX4_search_134 : decode cX4_search 134 = .ok (.aload_n 0, 1) := by decide +kernel
theorem dX4_search_135 : decode cX4_search 135 = .ok (.getfield 15, 3) := by decide +kernel
theorem dX4_search_138 : decode cX4_search 138 = .ok (.iconst 0, 1) := by decide +kernel
theorem dX4_search_139 : decode cX4_search 139 = .ok (.aload_n 3, 1) := by decide +kernel
theorem dX4_search_140 : decode cX4_search 140 = .ok (.getfield 24, 3) := by decide +kernel
theorem dX4_search_143 : decode cX4_search 143 = .ok (.iconst 0, 1) := by decide +kernel
theorem dX4_search_144 : decode cX4_search 144 = .ok (.bipush 7, 2) := by decide +kernel
theorem dX4_search_146 : decode cX4_search 146 = .ok (.invokestatic 27, 3) := by decide +kernel
theorem dX4_search_149 : decode cX4_search 149 = .ok (.aload_n 0, 1) := by decide +kernel
theorem dX4_search_150 : decode cX4_search 150 = .ok (.iconst 1, 1) := by decide +kernel
theorem dX4_search_151 : decode cX4_search 151 = .ok (.putfield 58, 3) := by decide +kernel
theorem dX4_search_154 : decode cX4_search 154 = .ok (.return_, 1) := by decide +kernel
theorem dX4_toNextRow_0 : decode cX4_toNextRow 0 = .ok (.aload_n 0, 1) := by decide +kernel
theorem dX4_toNextRow_1 : decode cX4_toNextRow 1 = .ok (.iload_n 1, 1) := by decide +kernel
theorem dX4_toNextRow_2 : decode cX4_toNextRow 2 = .ok (.iconst 1, 1) := by decide +kernel
theorem dX4_toNextRow_3 : decode cX4_toNextRow 3 = .ok (.iadd, 1) := by decide +kernel
theorem dX4_toNextRow_4 : decode cX4_toNextRow 4 = .ok (.invokestatic 62, 3) := by decide +kernel
theorem dX4_toNextRow_7 : decode cX4_toNextRow 7 = .ok (.aload_n 0, 1) := by decide +kernel
theorem dX4_toNextRow_8 : decode cX4_toNextRow 8 = .ok (.getfield 33, 3) := by decide +kernel
theorem dX4_toNextRow_11 : decode cX4_toNextRow 11 = .ok (.iconst 2, 1) := by decide +kernel
theorem dX4_toNextRow_12 : decode cX4_toNextRow 12 = .ok (.isub, 1) := by decide +kernel
theorem dX4_toNextRow_13 : decode cX4_toNextRow 13 = .ok (.istore_n 2, 1) := by decide +kernel
theorem dX4_toNextRow_14 : decode cX4_toNextRow 14 = .ok (.iload_n 2, 1) := by decide +kernel
theorem dX4_toNextRow_15 : decode cX4_toNextRow 15 = .ok (.ifCond .lt 26, 3) := by decide +kernel
theorem dX4_toNextRow_18 : decode cX4_toNextRow 18 = .ok (.aload_n 0, 1) := by decide +kernel
theorem dX4_toNextRow_19 : decode cX4_toNextRow 19 = .ok (.getfield 24, 3) := by decide +kernel
theorem dX4_toNextRow_22 : decode cX4_toNextRow 22 = .ok (.iload_n 2, 1) := by decide +kernel
theorem dX4_toNextRow_23 : decode cX4_toNextRow 23 = .ok (.iaload, 1) := by decide +kernel
theorem dX4_toNextRow_24 : decode cX4_toNextRow 24 = .ok (.aload_n 0, 1) := by decide +kernel
theorem dX4_toNextRow_25 : decode cX4_toNextRow 25 = .ok (.getfield 24, 3) := by decide +kernel
theorem dX4_toNextRow_28 : decode cX4_toNextRow 28 = .ok (.iload_n 2, 1) := by decide +kernel
theorem dX4_toNextRow_29 : decode cX4_toNextRow 29 = .ok (.iconst 1, 1) := by decide +kernel
theorem dX4_toNextRow_30 : decode cX4_toNextRow 30 = .ok (.iadd, 1) := by decide +kernel
theorem dX4_toNextRow_31 : decode cX4_toNextRow 31 = .ok (.iaload, 1) := by decide +kernel
theorem dX4_toNextRow_32 : decode cX4_toNextRow 32 = .ok (.if_icmp .le 9, 3) := by decide +kernel
theorem dX4_toNextRow_35 : decode cX4_toNextRow 35 = .ok (.iinc 2 (-1), 3) := by decide +kernel
theorem dX4_toNextRow_38 : decode cX4_toNextRow 38 = .ok (.goto (-24), 3) := by decide +kernel
theorem dX4_toNextRow_41 : decode cX4_toNextRow 41 = .ok (.iload_n 2, 1) := by decide +kernel
theorem dX4_toNextRow_42 : decode cX4_toNextRow 42 = .ok (.ifCond .ge 5, 3) := by decide +kernel
theorem dX4_toNextRow_45 : decode cX4_toNextRow 45 = .ok (.iconst 0, 1) := by decide +kernel
theorem dX4_toNextRow_46 : decode cX4_toNextRow 46 = .ok (.ireturn, 1) := by decide +kernel
theorem dX4_toNextRow_47 : decode cX4_toNextRow 47 = .ok (.aload_n 0, 1) := by decide +kernel
theorem dX4_toNextRow_48 : decode cX4_toNextRow 48 = .ok (.getfield 33, 3) := by decide +kernel
theorem dX4_toNextRow_51 : decode cX4_toNextRow 51 = .ok (.iconst 1, 1) := by decide +kernel
theorem dX4_toNextRow_52 : decode cX4_toNextRow 52 = .ok (.isub, 1) := by decide +kernel
theorem dX4_toNextRow_53 : decode cX4_toNextRow 53 = .ok (.istore_n 3, 1) := by decide +kernel
theorem dX4_toNextRow_54 : decode cX4_toNextRow 54 = .ok (.iload_n 3, 1) := by decide +kernel
theorem dX4_toNextRow_55 : decode cX4_toNextRow 55 = .ok (.iload_n 2, 1) := by decide +kernel
theorem dX4_toNextRow_56 : decode cX4_toNextRow 56 = .ok (.if_icmp .le 24, 3) := by decide +kernel
theorem dX4_toNextRow_59 : decode cX4_toNextRow 59 = .ok (.aload_n 0, 1) := by decide +kernel
theorem dX4_toNextRow_60 : decode cX4_toNextRow 60 = .ok (.getfield 24, 3) := by decide +kernel
theorem dX4_toNextRow_63 : decode cX4_toNextRow 63 = .ok (.iload_n 3, 1) := by decide +kernel
theorem dX4_toNextRow_64 : decode cX4_toNextRow 64 = .ok (.iaload, 1) := by decide +kernel
theorem dX4_toNextRow_65 : decode cX4_toNextRow 65 = .ok (.aload_n 0, 1) := by decide +kernel
theorem dX4_toNextRow_66 : decode cX4_toNextRow 66 = .ok (.getfield 24, 3) := by decide +kernel
theorem dX4_toNextRow_69 : decode cX4_toNextRow 69 = .ok (.iload_n 2, 1) := by decide +kernel
theorem dX4_toNextRow_70 : decode cX4_toNextRow 70 = .ok (.iaload, 1) := by decide +kernel
theorem dX4_toNextRow_71 : decode cX4_toNextRow 71 = .ok (.if_icmp .ge 9, 3) := by decide +kernel
theorem dX4_toNextRow_74 : decode cX4_toNextRow 74 = .ok (.iinc 3 (-1), 3) := by decide +kernel
theorem dX4_toNextRow_77 : decode cX4_toNextRow 77 = .ok (.goto (-23), 3) := by decide +kernel
theorem dX4_toNextRow_80 : decode cX4_toNextRow 80 = .ok (.aload_n 0, 1) := by decide +kernel
theorem dX4_toNextRow_81 : decode cX4_toNextRow 81 = .ok (.iload_n 2, 1) := by decide +kernel
theorem dX4_toNextRow_82 : decode cX4_toNextRow 82 = .ok (.iload_n 3, 1) := by decide +kernel
theorem dX4_toNextRow_83 : decode cX4_toNextRow 83 = .ok (.invokestatic 66, 3) := by decide +kernel
theorem dX4_toNextRow_86 : decode cX4_toNextRow 86 = .ok (.aload_n 0, 1) := by decide +kernel
theorem dX4_toNextRow_87 : decode cX4_toNextRow 87 = .ok (.iload_n 2, 1) := by decide +kernel
theorem dX4_toNextRow_88 : decode cX4_toNextRow 88 = .ok (.iconst 1, 1) := by decide +kernel
theorem dX4_toNextRow_89 : decode cX4_toNextRow 89 = .ok (.iadd, 1) := by decide +kernel
theorem dX4_toNextRow_90 : decode cX4_toNextRow 90 = .ok (.invokestatic 70, 3) := by decide +kernel
theorem dX4_toNextRow_93 : decode cX4_toNextRow 93 = .ok (.iconst 1, 1) := by decide +kernel
theorem dX4_toNextRow_94 : decode cX4_toNextRow 94 = .ok (.ireturn, 1) := by decide +kernel
theorem dX4_letFall_0 : decode cX4_letFall 0 = .ok (.iconst 0, 1) := by decide +kernel
theorem dX4_letFall_1 : decode cX4_letFall 1 = .ok (.iload_n 1, 1) := by decide +kernel
theorem dX4_letFall_2 : decode cX4_letFall 2 = .ok (.invokestatic 73, 3) := by decide +kernel
theorem dX4_letFall_5 : decode cX4_letFall 5 = .ok (.istore_n 2, 1) := by decide +kernel
theorem dX4_letFall_6 : decode cX4_letFall 6 = .ok (.iload_n 2, 1) := by decide +kernel
theorem dX4_letFall_7 : decode cX4_letFall 7 = .ok (.aload_n 0, 1) := by decide +kernel
theorem dX4_letFall_8 : decode cX4_letFall 8 = .ok (.getfield 33, 3) := by decide +kernel
theorem dX4_letFall_11 : decode cX4_letFall 11 = .ok (.if_icmp .ge 48, 3) := by decide +kernel
theorem dX4_letFall_14 : decode cX4_letFall 14 = .ok (.iload_n 2, 1) := by decide +kernel
theorem dX4_letFall_15 : decode cX4_letFall 15 = .ok (.iconst 1, 1) := by decide +kernel
theorem dX4_letFall_16 : decode cX4_letFall 16 = .ok (.iadd, 1) := by decide +kernel
theorem dX4_letFall_17 : decode cX4_letFall 17 = .ok (.istore_n 3, 1) := by decide +kernel
theorem dX4_letFall_18 : decode cX4_letFall 18 = .ok (.iload_n 3, 1) := by decide +kernel
theorem dX4_letFall_19 : decode cX4_letFall 19 = .ok (.aload_n 0, 1) := by decide +kernel
theorem dX4_letFall_20 : decode cX4_letFall 20 = .ok (.getfield 33, 3) := by decide +kernel
theorem dX4_letFall_23 : decode cX4_letFall 23 = .ok (.if_icmp .ge 30, 3) := by decide +kernel
theorem dX4_letFall_26 : decode cX4_letFall 26 = .ok (.aload_n 0, 1) := by decide +kernel
theorem dX4_letFall_27 : decode cX4_letFall 27 = .ok (.getfield 24, 3) := by decide +kernel
theorem dX4_letFall_30 : decode cX4_letFall 30 = .ok (.iload_n 3, 1) := by decide +kernel
theorem dX4_letFall_31 : decode cX4_letFall 31 = .ok (.iaload, 1) := by decide +kernel
theorem dX4_letFall_32 : decode cX4_letFall 32 = .ok (.aload_n 0, 1) := by decide +kernel
theorem dX4_letFall_33 : decode cX4_letFall 33 = .ok (.getfield 24, 3) := by decide +kernel
theorem dX4_letFall_36 : decode cX4_letFall 36 = .ok (.iload_n 2, 1) := by decide +kernel
theorem dX4_letFall_37 : decode cX4_letFall 37 = .ok (.iaload, 1) := by decide +kernel
theorem dX4_letFall_38 : decode cX4_letFall 38 = .ok (.if_icmp .le 9, 3) := by decide +kernel
theorem dX4_letFall_41 : decode cX4_letFall 41 = .ok (.aload_n 0, 1) := by decide +kernel
theorem dX4_letFall_42 : decode cX4_letFall 42 = .ok (.iload_n 2, 1) := by decide +kernel
theorem dX4_letFall_43 : decode cX4_letFall 43 = .ok (.iload_n 3, 1) := by decide +kernel
theorem dX4_letFall_44 : decode cX4_letFall 44 = .ok (.invokestatic 66, 3) := by decide +kernel
theorem dX4_letFall_47 : decode cX4_letFall 47 = .ok (.iinc 3 1, 3) := by decide +kernel
theorem dX4_letFall_50 : decode cX4_letFall 50 = .ok (.goto (-32), 3) := by decide +kernel
theorem dX4_letFall_53 : decode cX4_letFall 53 = .ok (.iinc 2 1, 3) := by decide +kernel
theorem dX4_letFall_56 : decode cX4_letFall 56 = .ok (.goto (-50), 3) := by decide +kernel
theorem dX4_letFall_59 : decode cX4_letFall 59 = .ok (.return_, 1) := by decide +kernel
theorem dX4_turnRound_0 : decode cX4_turnRound 0 = .ok (.iload_n 1, 1) := by decide +kernel
theorem dX4_turnRound_1 : decode cX4_turnRound 1 = .ok (.istore_n 2, 1) := by decide +kernel
theorem dX4_turnRound_2 : decode cX4_turnRound 2 = .ok (.aload_n 0, 1) := by decide +kernel
theorem dX4_turnRound_3 : decode cX4_turnRound 3 = .ok (.getfield 33, 3) := by decide +kernel
theorem dX4_turnRound_6 : decode cX4_turnRound 6 = .ok (.iconst 1, 1) := by decide +kernel
theorem dX4_turnRound_7 : decode cX4_turnRound 7 = .ok (.isub, 1) := by decide +kernel
theorem dX4_turnRound_8 : decode cX4_turnRound 8 = .ok (.istore_n 3, 1) := by decide +kernel
theorem dX4_turnRound_9 : decode cX4_turnRound 9 = .ok (.iload_n 2, 1) := by decide +kernel
theorem dX4_turnRound_10 : decode cX4_turnRound 10 = .ok (.iload_n 3, 1) := by decide +kernel
theorem dX4_turnRound_11 : decode cX4_turnRound 11 = .ok (.if_icmp .ge 18, 3) := by decide +kernel
theorem dX4_turnRound_14 : decode cX4_turnRound 14 = .ok (.aload_n 0, 1) := by decide +kernel
theorem dX4_turnRound_15 : decode cX4_turnRound 15 = .ok (.iload_n 2, 1) := by decide +kernel
theorem dX4_turnRound_16 : decode cX4_turnRound 16 = .ok (.iload_n 3, 1) := by decide +kernel
theorem dX4_turnRound_17 : decode cX4_turnRound 17 = .ok (.invokestatic 66, 3) := by decide +kernel
theorem dX4_turnRound_20 : decode cX4_turnRound 20 = .ok (.iinc 2 1, 3) := by decide +kernel
theorem dX4_turnRound_23 : decode cX4_turnRound 23 = .ok (.iinc 3 (-1), 3) := by decide +kernel
theorem dX4_turnRound_26 : decode cX4_turnRound 26 = .ok (.goto (-17), 3) := by decide +kernel
theorem dX4_turnRound_29 : decode cX4_turnRound 29 = .ok (.return_, 1) := by decide +kernel
theorem dX4_swap_0 : decode cX4_swap 0 = .ok (.aload_n 0, 1) := by decide +kernel
theorem dX4_swap_1 : decode cX4_swap 1 = .ok (.iload_n 1, 1) := by decide +kernel
theorem dX4_swap_2 : decode cX4_swap 2 = .ok (.invokevirtual 79, 3) := by decide +kernel
theorem dX4_swap_5 : decode cX4_swap 5 = .ok (.ifCond .eq 37, 3) := by decide +kernel
theorem dX4_swap_8 : decode cX4_swap 8 = .ok (.aload_n 0, 1) := by decide +kernel
theorem dX4_swap_9 : decode cX4_swap 9 = .ok (.iload_n 2, 1) := by decide +kernel
theorem dX4_swap_10 : decode cX4_swap 10 = .ok (.invokevirtual 79, 3) := by decide +kernel
theorem dX4_swap_13 : decode cX4_swap 13 = .ok (.ifCond .eq 29, 3) := by decide +kernel
theorem dX4_swap_16 : decode cX4_swap 16 = .ok (.aload_n 0, 1) := by decide +kernel
theorem dX4_swap_17 : decode cX4_swap 17 = .ok (.getfield 24, 3) := by decide +kernel
theorem dX4_swap_20 : decode cX4_swap 20 = .ok (.iload_n 1, 1) := by decide +kernel
theorem dX4_swap_21 : decode cX4_swap 21 = .ok (.iaload, 1) := by decide +kernel
theorem dX4_swap_22 : decode cX4_swap 22 = .ok (.istore_n 3, 1) := by decide +kernel
theorem dX4_swap_23 : decode cX4_swap 23 = .ok (.aload_n 0, 1) := by decide +kernel
theorem dX4_swap_24 : decode cX4_swap 24 = .ok (.getfield 24, 3) := by decide +kernel
theorem dX4_swap_27 : decode cX4_swap 27 = .ok (.iload_n 1, 1) := by decide +kernel
theorem dX4_swap_28 : decode cX4_swap 28 = .ok (.aload_n 0, 1) := by decide +kernel
theorem dX4_swap_29 : decode cX4_swap 29 = .ok (.getfield 24, 3) := by decide +kernel
theorem dX4_swap_32 : decode cX4_swap 32 = .ok (.iload_n 2, 1) := by decide +kernel
theorem dX4_swap_33 : decode cX4_swap 33 = .ok (.iaload, 1) := by decide +kernel
theorem dX4_swap_34 : decode cX4_swap 34 = .ok (.iastore, 1) := by decide +kernel
theorem dX4_swap_35 : decode cX4_swap 35 = .ok (.aload_n 0, 1) := by decide +kernel
theorem dX4_swap_36 : decode cX4_swap 36 = .ok (.getfield 24, 3) := by decide +kernel
theorem dX4_swap_39 : decode cX4_swap 39 = .ok (.iload_n 2, 1) := by decide +kernel
theorem dX4_swap_40 : decode cX4_swap 40 = .ok (.iload_n 3, 1) := by decide +kernel
theorem dX4_swap_41 : decode cX4_swap 41 = .ok (.iastore, 1) := by decide +kernel
theorem dX4_swap_42 : decode cX4_swap 42 = .ok (.return_, 1) := by decide +kernel
theorem dX5_init_0 : decode cX5_init 0 = .ok (.aload_n 0, 1) := by decide +kernel
theorem dX5_init_1 : decode cX5_init 1 = .ok (.invokespecial 3, 3) := by decide +kernel
theorem dX5_init_4 : decode cX5_init 4 = .ok (.aload_n 0, 1) := by decide +kernel
theorem dX5_init_5 : decode cX5_init 5 = .ok (.bipush 7, 2) := by decide +kernel
theorem dX5_init_7 : decode cX5_init 7 = .ok (.newarray .int, 2) := by decide +kernel
theorem dX5_init_9 : decode cX5_init 9 = .ok (.putfield 9, 3) := by decide +kernel
theorem dX5_init_12 : decode cX5_init 12 = .ok (.aload_n 0, 1) := by decide +kernel
theorem dX5_init_13 : decode cX5_init 13 = .ok (.bipush 7, 2) := by decide +kernel
theorem dX5_init_15 : decode cX5_init 15 = .ok (.newarray .int, 2) := by decide +kernel
theorem dX5_init_17 : decode cX5_init 17 = .ok (.putfield 15, 3) := by decide +kernel
theorem dX5_init_20 : decode cX5_init 20 = .ok (.aload_n 0, 1) := by decide +kernel
theorem dX5_init_21 : decode cX5_init 21 = .ok (.bipush 7, 2) := by decide +kernel
theorem dX5_init_23 : decode cX5_init 23 = .ok (.newarray .int, 2) := by decide +kernel
theorem dX5_init_25 : decode cX5_init 25 = .ok (.putfield 18, 3) := by decide +kernel
theorem dX5_init_28 : decode cX5_init 28 = .ok (.aload_n 0, 1) := by decide +kernel
theorem dX5_init_29 : decode cX5_init 29 = .ok (.bipush 7, 2) := by decide +kernel
theorem dX5_init_31 : decode cX5_init 31 = .ok (.newarray .int, 2) := by decide +kernel
theorem dX5_init_33 : decode cX5_init 33 = .ok (.putfield 21, 3) := by decide +kernel
theorem dX5_init_36 : decode cX5_init 36 = .ok (.aload_n 0, 1) := by decide +kernel
theorem dX5_init_37 : decode cX5_init 37 = .ok (.bipush 7, 2) := by decide +kernel
theorem dX5_init_39 : decode cX5_init 39 = .ok (.newarray .int, 2) := by decide +kernel
theorem dX5_init_41 : decode cX5_init 41 = .ok (.putfield 24, 3) := by decide +kernel
theorem dX5_init_44 : decode cX5_init 44 = .ok (.aload_n 0, 1) := by decide +kernel
theorem dX5_init_45 : decode cX5_init 45 = .ok (.bipush 7, 2) := by decide +kernel
theorem dX5_init_47 : decode cX5_init 47 = .ok (.newarray .int, 2) := by decide +kernel
theorem dX5_init_49 : decode cX5_init 49 = .ok (.putfield 27, 3) := by decide +kernel
theorem dX5_init_52 : decode cX5_init 52 = .ok (.return_, 1) := by decide +kernel
theorem dX5_has_0 : decode cX5_has 0 = .ok (.iload_n 1, 1) := by decide +kernel
theorem dX5_has_1 : decode cX5_has 1 = .ok (.ifCond .lt 15, 3) := by decide +kernel
theorem dX5_has_4 : decode cX5_has 4 = .ok (.iload_n 1, 1) := by decide +kernel
theorem dX5_has_5 : decode cX5_has 5 = .ok (.aload_n 0, 1) := by decide +kernel
theorem dX5_has_6 : decode cX5_has 6 = .ok (.getfield 30, 3) := by decide +kernel
theorem dX5_has_9 : decode cX5_has 9 = .ok (.if_icmp .ge 7, 3) := by decide +kernel
theorem dX5_has_12 : decode cX5_has 12 = .ok (.iconst 1, 1) := by decide +kernel
theorem dX5_has_13 : decode cX5_has 13 = .ok (.goto 4, 3) := by decide +kernel
theorem dX5_has_16 : decode cX5_has 16 = .ok (.iconst 0, 1) := by decide +kernel
theorem dX5_has_17 : decode cX5_has 17 = .ok (.ireturn, 1) := by decide +kernel
theorem dX5_everyone_0 : decode cX5_everyone 0 = .ok (.iconst 1, 1) := by decide +kernel
theorem dX5_everyone_1 : decode cX5_everyone 1 = .ok (.aload_n 0, 1) := by decide +kernel
theorem dX5_everyone_2 : decode cX5_everyone 2 = .ok (.getfield 30, 3) := by decide +kernel
theorem dX5_everyone_5 : decode cX5_everyone 5 = .ok (.ishl, 1) := by decide +kernel
theorem dX5_everyone_6 : decode cX5_everyone 6 = .ok (.iconst 1, 1) := by decide +kernel
theorem dX5_everyone_7 : decode cX5_everyone 7 = .ok (.isub, 1) := by decide +kernel
theorem dX5_everyone_8 : decode cX5_everyone 8 = .ok (.ireturn, 1) := by decide +kernel
theorem dX5_add_0 : decode cX5_add 0 = .ok (.aload_n 0, 1) := by decide +kernel
theorem dX5_add_1 : decode cX5_add 1 = .ok (.getfield 30, 3) := by decide +kernel
theorem dX5_add_4 : decode cX5_add 4 = .ok (.bipush 7, 2) := by decide +kernel
theorem dX5_add_6 : decode cX5_add 6 = .ok (.if_icmp .lt 5, 3) := by decide +kernel
theorem dX5_add_9 : decode cX5_add 9 = .ok (.iconst 0, 1) := by decide +kernel
theorem dX5_add_10 : decode cX5_add 10 = .ok (.ireturn, 1) := by decide +kernel
theorem dX5_add_11 : decode cX5_add 11 = .ok (.aload_n 0, 1) := by decide +kernel
theorem dX5_add_12 : decode cX5_add 12 = .ok (.getfield 9, 3) := by decide +kernel
theorem dX5_add_15 : decode cX5_add 15 = .ok (.aload_n 0, 1) := by decide +kernel
theorem dX5_add_16 : decode cX5_add 16 = .ok (.getfield 30, 3) := by decide +kernel
theorem dX5_add_19 : decode cX5_add 19 = .ok (.iload_n 1, 1) := by decide +kernel
theorem dX5_add_20 : decode cX5_add 20 = .ok (.iastore, 1) := by decide +kernel
theorem dX5_add_21 : decode cX5_add 21 = .ok (.aload_n 0, 1) := by decide +kernel
theorem dX5_add_22 : decode cX5_add 22 = .ok (.getfield 15, 3) := by decide +kernel
theorem dX5_add_25 : decode cX5_add 25 = .ok (.aload_n 0, 1) := by decide +kernel
theorem dX5_add_26 : decode cX5_add 26 = .ok (.getfield 30, 3) := by decide +kernel
theorem dX5_add_29 : decode cX5_add 29 = .ok (.iload_n 2, 1) := by decide +kernel
theorem dX5_add_30 : decode cX5_add 30 = .ok (.iastore, 1) := by decide +kernel
theorem dX5_add_31 : decode cX5_add 31 = .ok (.aload_n 0, 1) := by decide +kernel
theorem dX5_add_32 : decode cX5_add 32 = .ok (.getfield 18, 3) := by decide +kernel
theorem dX5_add_35 : decode cX5_add 35 = .ok (.aload_n 0, 1) := by decide +kernel
theorem dX5_add_36 : decode cX5_add 36 = .ok (.getfield 30, 3) := by decide +kernel
theorem dX5_add_39 : decode cX5_add 39 = .ok (.iload_n 3, 1) := by decide +kernel
theorem dX5_add_40 : decode cX5_add 40 = .ok (.iastore, 1) := by decide +kernel
theorem dX5_add_41 : decode cX5_add 41 = .ok (.aload_n 0, 1) := by decide +kernel
theorem dX5_add_42 : decode cX5_add 42 = .ok (.getfield 21, 3) := by decide +kernel
theorem dX5_add_45 : decode cX5_add 45 = .ok (.aload_n 0, 1) := by decide +kernel
theorem dX5_add_46 : decode cX5_add 46 = .ok (.getfield 30, 3) := by decide +kernel
theorem dX5_add_49 : decode cX5_add 49 = .ok (.iconst 0, 1) := by decide +kernel
theorem dX5_add_50 : decode cX5_add 50 = .ok (.iastore, 1) := by decide +kernel
theorem dX5_add_51 : decode cX5_add 51 = .ok (.aload_n 0, 1) := by decide +kernel
theorem dX5_add_52 : decode cX5_add 52 = .ok (.getfield 24, 3) := by decide +kernel
theorem dX5_add_55 : decode cX5_add 55 = .ok (.aload_n 0, 1) := by decide +kernel
theorem dX5_add_56 : decode cX5_add 56 = .ok (.getfield 30, 3) := by decide +kernel
theorem dX5_add_59 : decode cX5_add 59 = .ok (.iconst 0, 1) := by decide +kernel
theorem dX5_add_60 : decode cX5_add 60 = .ok (.iastore, 1) := by decide +kernel
theorem dX5_add_61 : decode cX5_add 61 = .ok (.aload_n 0, 1) := by decide +kernel
theorem dX5_add_62 : decode cX5_add 62 = .ok (.getfield 27, 3) := by decide +kernel
theorem dX5_add_65 : decode cX5_add 65 = .ok (.aload_n 0, 1) := by decide +kernel
theorem dX5_add_66 : decode cX5_add 66 = .ok (.getfield 30, 3) := by decide +kernel
theorem dX5_add_69 : decode cX5_add 69 = .ok (.aload_n 0, 1) := by decide +kernel
theorem dX5_add_70 : decode cX5_add 70 = .ok (.getfield 30, 3) := by decide +kernel
theorem dX5_add_73 : decode cX5_add 73 = .ok (.iastore, 1) := by decide +kernel
theorem dX5_add_74 : decode cX5_add 74 = .ok (.aload_n 0, 1) := by decide +kernel
theorem dX5_add_75 : decode cX5_add 75 = .ok (.dup, 1) := by decide +kernel
theorem dX5_add_76 : decode cX5_add 76 = .ok (.getfield 30, 3) := by decide +kernel
theorem dX5_add_79 : decode cX5_add 79 = .ok (.iconst 1, 1) := by decide +kernel
theorem dX5_add_80 : decode cX5_add 80 = .ok (.iadd, 1) := by decide +kernel
theorem dX5_add_81 : decode cX5_add 81 = .ok (.putfield 30, 3) := by decide +kernel
theorem dX5_add_84 : decode cX5_add 84 = .ok (.iconst 1, 1) := by decide +kernel
theorem dX5_add_85 : decode cX5_add 85 = .ok (.ireturn, 1) := by decide +kernel
theorem dX5_befriend_0 : decode cX5_befriend 0 = .ok (.aload_n 0, 1) := by decide +kernel
theorem dX5_befriend_1 : decode cX5_befriend 1 = .ok (.iload_n 1, 1) := by decide +kernel
theorem dX5_befriend_2 : decode cX5_befriend 2 = .ok (.invokevirtual 34, 3) := by decide +kernel
theorem dX5_befriend_5 : decode cX5_befriend 5 = .ok (.ifCond .eq 16, 3) := by decide +kernel
theorem dX5_befriend_8 : decode cX5_befriend 8 = .ok (.aload_n 0, 1) := by decide +kernel
theorem dX5_befriend_9 : decode cX5_befriend 9 = .ok (.iload_n 2, 1) := by decide +kernel
theorem dX5_befriend_10 : decode cX5_befriend 10 = .ok (.invokevirtual 34, 3) := by decide +kernel
theorem dX5_befriend_13 : decode cX5_befriend 13 = .ok (.ifCond .eq 8, 3) := by decide +kernel
theorem dX5_befriend_16 : decode cX5_befriend 16 = .ok (.iload_n 1, 1) := by decide +kernel
theorem dX5_befriend_17 : decode cX5_befriend 17 = .ok (.iload_n 2, 1) := by decide +kernel
theorem dX5_befriend_18 : decode cX5_befriend 18 = .ok (.if_icmp .ne 5, 3) := by decide +kernel
theorem dX5_befriend_21 : decode cX5_befriend 21 = .ok (.iconst 0, 1) := by decide +kernel
theorem dX5_befriend_22 : decode cX5_befriend 22 = .ok (.ireturn, 1) := by decide +kernel
theorem dX5_befriend_23 : decode cX5_befriend 23 = .ok (.aload_n 0, 1) := by decide +kernel
theorem dX5_befriend_24 : decode cX5_befriend 24 = .ok (.getfield 21, 3) := by decide +kernel
theorem dX5_befriend_27 : decode cX5_befriend 27 = .ok (.iload_n 1, 1) := by decide +kernel
theorem dX5_befriend_28 : decode cX5_befriend 28 = .ok (.dup2, 1) := by decide +kernel
theorem dX5_befriend_29 : decode cX5_befriend 29 = .ok (.iaload, 1) := by decide +kernel
theorem dX5_befriend_30 : decode cX5_befriend 30 = .ok (.iconst 1, 1) := by decide +kernel
theorem dX5_befriend_31 : decode cX5_befriend 31 = .ok (.iload_n 2, 1) := by decide +kernel
theorem dX5_befriend_32 : decode cX5_befriend 32 = .ok (.ishl, 1) := by decide +kernel
theorem dX5_befriend_33 : decode cX5_befriend 33 = .ok (.ior, 1) := by decide +kernel
theorem dX5_befriend_34 : decode cX5_befriend 34 = .ok (.iastore, 1) := by decide +kernel
theorem dX5_befriend_35 : decode cX5_befriend 35 = .ok (.iconst 1, 1) := by decide +kernel
theorem dX5_befriend_36 : decode cX5_befriend 36 = .ok (.ireturn, 1) := by decide +kernel
theorem dX5_hereBy_0 : decode cX5_hereBy 0 = .ok (.iconst 0, 1) := by decide +kernel
theorem dX5_hereBy_1 : decode cX5_hereBy 1 = .ok (.istore_n 2, 1) := by decide +kernel
theorem dX5_hereBy_2 : decode cX5_hereBy 2 = .ok (.iconst 0, 1) := by decide +kernel
theorem dX5_hereBy_3 : decode cX5_hereBy 3 = .ok (.istore_n 3, 1) := by decide +kernel
theorem dX5_hereBy_4 : decode cX5_hereBy 4 = .ok (.iload_n 3, 1) := by decide +kernel
theorem dX5_hereBy_5 : decode cX5_hereBy 5 = .ok (.aload_n 0, 1) := by decide +kernel
theorem dX5_hereBy_6 : decode cX5_hereBy 6 = .ok (.getfield 30, 3) := by decide +kernel
theorem dX5_hereBy_9 : decode cX5_hereBy 9 = .ok (.if_icmp .ge 25, 3) := by decide +kernel
theorem dX5_hereBy_12 : decode cX5_hereBy 12 = .ok (.aload_n 0, 1) := by decide +kernel
theorem dX5_hereBy_13 : decode cX5_hereBy 13 = .ok (.getfield 15, 3) := by decide +kernel
theorem dX5_hereBy_16 : decode cX5_hereBy 16 = .ok (.iload_n 3, 1) := by decide +kernel
theorem dX5_hereBy_17 : decode cX5_hereBy 17 = .ok (.iaload, 1) := by decide +kernel
theorem dX5_hereBy_18 : decode cX5_hereBy 18 = .ok (.iload_n 1, 1) := by decide +kernel
theorem dX5_hereBy_19 : decode cX5_hereBy 19 = .ok (.if_icmp .gt 9, 3) := by decide +kernel
theorem dX5_hereBy_22 : decode cX5_hereBy 22 = .ok (.iload_n 2, 1) := by decide +kernel
theorem dX5_hereBy_23 : decode cX5_hereBy 23 = .ok (.iconst 1, 1) := by decide +kernel
theorem dX5_hereBy_24 : decode cX5_hereBy 24 = .ok (.iload_n 3, 1) := by decide +kernel
theorem dX5_hereBy_25 : decode cX5_hereBy 25 = .ok (.ishl, 1) := by decide +kernel
theorem dX5_hereBy_26 : decode cX5_hereBy 26 = .ok (.ior, 1) := by decide +kernel
theorem dX5_hereBy_27 : decode cX5_hereBy 27 = .ok (.istore_n 2, 1) := by decide +kernel
theorem dX5_hereBy_28 : decode cX5_hereBy 28 = .ok (.iinc 3 1, 3) := by decide +kernel
theorem dX5_hereBy_31 : decode cX5_hereBy 31 = .ok (.goto (-27), 3) := by decide +kernel
theorem dX5_hereBy_34 : decode cX5_hereBy 34 = .ok (.iload_n 2, 1) := by decide +kernel
theorem dX5_hereBy_35 : decode cX5_hereBy 35 = .ok (.ireturn, 1) := by decide +kernel
theorem dX5_harmAt_0 : decode cX5_harmAt 0 = .ok (.aload_n 0, 1) := by decide +kernel
theorem dX5_harmAt_1 : decode cX5_harmAt 1 = .ok (.iload_n 1, 1) := by decide +kernel
theorem dX5_harmAt_2 : decode cX5_harmAt 2 = .ok (.invokevirtual 34, 3) := by decide +kernel
theorem dX5_harmAt_5 : decode cX5_harmAt 5 = .ok (.ifCond .ne 5, 3) := by decide +kernel
theorem dX5_harmAt_8 : decode cX5_harmAt 8 = .ok (.iconst 0, 1) := by decide +kernel
theorem dX5_harmAt_9 : decode cX5_harmAt 9 = .ok (.ireturn, 1) := by decide +kernel
theorem dX5_harmAt_10 : decode cX5_harmAt 10 = .ok (.aload_n 0, 1) := by decide +kernel
theorem dX5_harmAt_11 : decode cX5_harmAt 11 = .ok (.getfield 18, 3) := by decide +kernel
theorem dX5_harmAt_14 : decode cX5_harmAt 14 = .ok (.iload_n 1, 1) := by decide +kernel
theorem dX5_harmAt_15 : decode cX5_harmAt 15 = .ok (.iaload, 1) := by decide +kernel
theorem dX5_harmAt_16 : decode cX5_harmAt 16 = .ok (.iconst 4, 1) := by decide +kernel
theorem dX5_harmAt_17 : decode cX5_harmAt 17 = .ok (.if_icmp .ne 18, 3) := by decide +kernel
theorem dX5_harmAt_20 : decode cX5_harmAt 20 = .ok (.iconst 0, 1) := by decide +kernel
theorem dX5_harmAt_21 : decode cX5_harmAt 21 = .ok (.iload_n 2, 1) := by decide +kernel
theorem dX5_harmAt_22 : decode cX5_harmAt 22 = .ok (.aload_n 0, 1) := by decide +kernel
theorem dX5_harmAt_23 : decode cX5_harmAt 23 = .ok (.getfield 15, 3) := by decide +kernel
theorem dX5_harmAt_26 : decode cX5_harmAt 26 = .ok (.iload_n 1, 1) := by decide +kernel
theorem dX5_harmAt_27 : decode cX5_harmAt 27 = .ok (.iaload, 1) := by decide +kernel
theorem dX5_harmAt_28 : decode cX5_harmAt 28 = .ok (.isub, 1) := by decide +kernel
theorem dX5_harmAt_29 : decode cX5_harmAt 29 = .ok (.invokestatic 38, 3) := by decide +kernel
theorem dX5_harmAt_32 : decode cX5_harmAt 32 = .ok (.goto 4, 3) := by decide +kernel
theorem dX5_harmAt_35 : decode cX5_harmAt 35 = .ok (.iconst 0, 1) := by decide +kernel
theorem dX5_harmAt_36 : decode cX5_harmAt 36 = .ok (.istore 4, 2) := by decide +kernel
theorem dX5_harmAt_38 : decode cX5_harmAt 38 = .ok (.aload_n 0, 1) := by decide +kernel
theorem dX5_harmAt_39 : decode cX5_harmAt 39 = .ok (.getfield 18, 3) := by decide +kernel
theorem dX5_harmAt_42 : decode cX5_harmAt 42 = .ok (.iload_n 1, 1) := by decide +kernel
theorem dX5_harmAt_43 : decode cX5_harmAt 43 = .ok (.iaload, 1) := by decide +kernel
theorem dX5_harmAt_44 : decode cX5_harmAt 44 = .ok (.aload_n 0, 1) := by decide +kernel
theorem dX5_harmAt_45 : decode cX5_harmAt 45 = .ok (.getfield 9, 3) := by decide +kernel
theorem dX5_harmAt_48 : decode cX5_harmAt 48 = .ok (.iload_n 1, 1) := by decide +kernel
theorem dX5_harmAt_49 : decode cX5_harmAt 49 = .ok (.iaload, 1) := by decide +kernel
theorem dX5_harmAt_50 : decode cX5_harmAt 50 = .ok (.aload_n 0, 1) := by decide +kernel
theorem dX5_harmAt_51 : decode cX5_harmAt 51 = .ok (.getfield 24, 3) := by decide +kernel
theorem dX5_harmAt_54 : decode cX5_harmAt 54 = .ok (.iload_n 1, 1) := by decide +kernel
theorem dX5_harmAt_55 : decode cX5_harmAt 55 = .ok (.iaload, 1) := by decide +kernel
theorem dX5_harmAt_56 : decode cX5_harmAt 56 = .ok (.iadd, 1) := by decide +kernel
theorem dX5_harmAt_57 : decode cX5_harmAt 57 = .ok (.iload 4, 2) := by decide +kernel
theorem dX5_harmAt_59 : decode cX5_harmAt 59 = .ok (.iadd, 1) := by decide +kernel
theorem dX5_harmAt_60 : decode cX5_harmAt 60 = .ok (.iload_n 3, 1) := by decide +kernel
theorem dX5_harmAt_61 : decode cX5_harmAt 61 = .ok (.isub, 1) := by decide +kernel
theorem dX5_harmAt_62 : decode cX5_harmAt 62 = .ok (.invokestatic 44, 3) := by decide +kernel
theorem dX5_harmAt_65 : decode cX5_harmAt 65 = .ok (.ireturn, 1) := by decide +kernel
theorem dX5_harmBy_0 : decode cX5_harmBy 0 = .ok (.iload_n 1, 1) := by decide +kernel
theorem dX5_harmBy_1 : decode cX5_harmBy 1 = .ok (.ifCond .ge 8, 3) := by decide +kernel
theorem dX5_harmBy_4 : decode cX5_harmBy 4 = .ok (.iload_n 1, 1) := by decide +kernel
theorem dX5_harmBy_5 : decode cX5_harmBy 5 = .ok (.ineg, 1) := by decide +kernel
theorem dX5_harmBy_6 : decode cX5_harmBy 6 = .ok (.goto 4, 3) := by decide +kernel
theorem dX5_harmBy_9 : decode cX5_harmBy 9 = .ok (.iload_n 1, 1) := by decide +kernel
theorem dX5_harmBy_10 : decode cX5_harmBy 10 = .ok (.istore_n 2, 1) := by decide +kernel
theorem dX5_harmBy_11 : decode cX5_harmBy 11 = .ok (.iload_n 0, 1) := by decide +kernel
theorem dX5_harmBy_12 : decode cX5_harmBy 12 = .ok (.iconst 1, 1) := by decide +kernel
theorem dX5_harmBy_13 : decode cX5_harmBy 13 = .ok (.if_icmp .ne 22, 3) := by decide +kernel
theorem dX5_harmBy_16 : decode cX5_harmBy 16 = .ok (.iload_n 1, 1) := by decide +kernel
theorem dX5_harmBy_17 : decode cX5_harmBy 17 = .ok (.ifCond .le 18, 3) := by decide +kernel
theorem dX5_harmBy_20 : decode cX5_harmBy 20 = .ok (.iload_n 2, 1) := by decide +kernel
theorem dX5_harmBy_21 : decode cX5_harmBy 21 = .ok (.bipush 6, 2) := by decide +kernel
theorem dX5_harmBy_23 : decode cX5_harmBy 23 = .ok (.if_icmp .le 10, 3) := by decide +kernel
theorem dX5_harmBy_26 : decode cX5_harmBy 26 = .ok (.iload_n 2, 1) := by decide +kernel
theorem dX5_harmBy_27 : decode cX5_harmBy 27 = .ok (.bipush 6, 2) := by decide +kernel
theorem dX5_harmBy_29 : decode cX5_harmBy 29 = .ok (.isub, 1) := by decide +kernel
theorem dX5_harmBy_30 : decode cX5_harmBy 30 = .ok (.goto 4, 3) := by decide +kernel
theorem dX5_harmBy_33 : decode cX5_harmBy 33 = .ok (.iconst 0, 1) := by decide +kernel
theorem dX5_harmBy_34 : decode cX5_harmBy 34 = .ok (.ireturn, 1) := by decide +kernel
theorem dX5_harmBy_35 : decode cX5_harmBy 35 = .ok (.iload_n 0, 1) := by decide +kernel
theorem dX5_harmBy_36 : decode cX5_harmBy 36 = .ok (.iconst 2, 1) := by decide +kernel
theorem dX5_harmBy_37 : decode cX5_harmBy 37 = .ok (.if_icmp .ne 11, 3) := by decide +kernel
theorem dX5_harmBy_40 : decode cX5_harmBy 40 = .ok (.iload_n 1, 1) := by decide +kernel
theorem dX5_harmBy_41 : decode cX5_harmBy 41 = .ok (.ifCond .ge 7, 3) := by decide +kernel
theorem dX5_harmBy_44 : decode cX5_harmBy 44 = .ok (.iconst 2, 1) := by decide +kernel
theorem dX5_harmBy_45 : decode cX5_harmBy 45 = .ok (.iload_n 2, 1) := by decide +kernel
theorem dX5_harmBy_46 : decode cX5_harmBy 46 = .ok (.imul, 1) := by decide +kernel
theorem dX5_harmBy_47 : decode cX5_harmBy 47 = .ok (.ireturn, 1) := by decide +kernel
theorem dX5_harmBy_48 : decode cX5_harmBy 48 = .ok (.iload_n 0, 1) := by decide +kernel
theorem dX5_harmBy_49 : decode cX5_harmBy 49 = .ok (.iconst 3, 1) := by decide +kernel
theorem dX5_harmBy_50 : decode cX5_harmBy 50 = .ok (.if_icmp .ne 16, 3) := by decide +kernel
theorem dX5_harmBy_53 : decode cX5_harmBy 53 = .ok (.iload_n 2, 1) := by decide +kernel
theorem dX5_harmBy_54 : decode cX5_harmBy 54 = .ok (.iconst 2, 1) := by decide +kernel
theorem dX5_harmBy_55 : decode cX5_harmBy 55 = .ok (.if_icmp .le 9, 3) := by decide +kernel
theorem dX5_harmBy_58 : decode cX5_harmBy 58 = .ok (.iload_n 2, 1) := by decide +kernel
theorem dX5_harmBy_59 : decode cX5_harmBy 59 = .ok (.iconst 2, 1) := by decide +kernel
theorem dX5_harmBy_60 : decode cX5_harmBy 60 = .ok (.isub, 1) := by decide +kernel
theorem dX5_harmBy_61 : decode cX5_harmBy 61 = .ok (.goto 4, 3) := by decide +kernel
theorem dX5_harmBy_64 : decode cX5_harmBy 64 = .ok (.iconst 0, 1) := by decide +kernel
theorem dX5_harmBy_65 : decode cX5_harmBy 65 = .ok (.ireturn, 1) := by decide +kernel
theorem dX5_harmBy_66 : decode cX5_harmBy 66 = .ok (.iload_n 2, 1) := by decide +kernel
theorem dX5_harmBy_67 : decode cX5_harmBy 67 = .ok (.ireturn, 1) := by decide +kernel
theorem dX5_placeOf_0 : decode cX5_placeOf 0 = .ok (.iconst 0, 1) := by decide +kernel
theorem dX5_placeOf_1 : decode cX5_placeOf 1 = .ok (.istore_n 2, 1) := by decide +kernel
theorem dX5_placeOf_2 : decode cX5_placeOf 2 = .ok (.iload_n 2, 1) := by decide +kernel
theorem dX5_placeOf_3 : decode cX5_placeOf 3 = .ok (.aload_n 0, 1) := by decide +kernel
theorem dX5_placeOf_4 : decode cX5_placeOf 4 = .ok (.getfield 30, 3) := by decide +kernel
theorem dX5_placeOf_7 : decode cX5_placeOf 7 = .ok (.if_icmp .ge 21, 3) := by decide +kernel
theorem dX5_placeOf_10 : decode cX5_placeOf 10 = .ok (.aload_n 0, 1) := by decide +kernel
theorem dX5_placeOf_11 : decode cX5_placeOf 11 = .ok (.getfield 27, 3) := by decide +kernel
theorem dX5_placeOf_14 : decode cX5_placeOf 14 = .ok (.iload_n 2, 1) := by decide +kernel
theorem dX5_placeOf_15 : decode cX5_placeOf 15 = .ok (.iaload, 1) := by decide +kernel
theorem dX5_placeOf_16 : decode cX5_placeOf 16 = .ok (.iload_n 1, 1) := by decide +kernel
theorem dX5_placeOf_17 : decode cX5_placeOf 17 = .ok (.if_icmp .ne 5, 3) := by decide +kernel
theorem dX5_placeOf_20 : decode cX5_placeOf 20 = .ok (.iload_n 2, 1) := by decide +kernel
theorem dX5_placeOf_21 : decode cX5_placeOf 21 = .ok (.ireturn, 1) := by decide +kernel
theorem dX5_placeOf_22 : decode cX5_placeOf 22 = .ok (.iinc 2 1, 3) := by decide +kernel
theorem dX5_placeOf_25 : decode cX5_placeOf 25 = .ok (.goto (-23), 3) := by decide +kernel
theorem dX5_placeOf_28 : decode cX5_placeOf 28 = .ok (.iconst 0, 1) := by decide +kernel
theorem dX5_placeOf_29 : decode cX5_placeOf 29 = .ok (.ireturn, 1) := by decide +kernel
theorem dX5_shift_0 : decode cX5_shift 0 = .ok (.aload_n 0, 1) := by decide +kernel
theorem dX5_shift_1 : decode cX5_shift 1 = .ok (.iload_n 1, 1) := by decide +kernel
theorem dX5_shift_2 : decode cX5_shift 2 = .ok (.invokevirtual 34, 3) := by decide +kernel
theorem dX5_shift_5 : decode cX5_shift 5 = .ok (.ifCond .eq 11, 3) := by decide +kernel
theorem dX5_shift_8 : decode cX5_shift 8 = .ok (.aload_n 0, 1) := by decide +kernel
theorem dX5_shift_9 : decode cX5_shift 9 = .ok (.iload_n 2, 1) := by decide +kernel
theorem dX5_shift_10 : decode cX5_shift 10 = .ok (.invokevirtual 34, 3) := by decide +kernel
theorem dX5_shift_13 : decode cX5_shift 13 = .ok (.ifCond .ne 4, 3) := by decide +kernel
theorem dX5_shift_16 : decode cX5_shift 16 = .ok (.return_, 1) := by decide +kernel
theorem dX5_shift_17 : decode cX5_shift 17 = .ok (.aload_n 0, 1) := by decide +kernel
theorem dX5_shift_18 : decode cX5_shift 18 = .ok (.getfield 27, 3) := by decide +kernel
theorem dX5_shift_21 : decode cX5_shift 21 = .ok (.iload_n 1, 1) := by decide +kernel
theorem dX5_shift_22 : decode cX5_shift 22 = .ok (.iaload, 1) := by decide +kernel
theorem dX5_shift_23 : decode cX5_shift 23 = .ok (.istore_n 3, 1) := by decide +kernel
theorem dX5_shift_24 : decode cX5_shift 24 = .ok (.iload_n 1, 1) := by decide +kernel
theorem dX5_shift_25 : decode cX5_shift 25 = .ok (.istore 4, 2) := by decide +kernel
theorem dX5_shift_27 : decode cX5_shift 27 = .ok (.iload 4, 2) := by decide +kernel
theorem dX5_shift_29 : decode cX5_shift 29 = .ok (.iload_n 2, 1) := by decide +kernel
theorem dX5_shift_30 : decode cX5_shift 30 = .ok (.if_icmp .ge 25, 3) := by decide +kernel
theorem dX5_shift_33 : decode cX5_shift 33 = .ok (.aload_n 0, 1) := by decide +kernel
theorem dX5_shift_34 : decode cX5_shift 34 = .ok (.getfield 27, 3) := by decide +kernel
theorem dX5_shift_37 : decode cX5_shift 37 = .ok (.iload 4, 2) := by decide +kernel
theorem dX5_shift_39 : decode cX5_shift 39 = .ok (.aload_n 0, 1) := by decide +kernel
theorem dX5_shift_40 : decode cX5_shift 40 = .ok (.getfield 27, 3) := by decide +kernel
theorem dX5_shift_43 : decode cX5_shift 43 = .ok (.iload 4, 2) := by decide +kernel
theorem dX5_shift_45 : decode cX5_shift 45 = .ok (.iconst 1, 1) := by decide +kernel
theorem dX5_shift_46 : decode cX5_shift 46 = .ok (.iadd, 1) := by decide +kernel
theorem dX5_shift_47 : decode cX5_shift 47 = .ok (.iaload, 1) := by decide +kernel
theorem dX5_shift_48 : decode cX5_shift 48 = .ok (.iastore, 1) := by decide +kernel
theorem dX5_shift_49 : decode cX5_shift 49 = .ok (.iinc 4 1, 3) := by decide +kernel
theorem dX5_shift_52 : decode cX5_shift 52 = .ok (.goto (-25), 3) := by decide +kernel
theorem dX5_shift_55 : decode cX5_shift 55 = .ok (.iload_n 1, 1) := by decide +kernel
theorem dX5_shift_56 : decode cX5_shift 56 = .ok (.istore 4, 2) := by decide +kernel
theorem dX5_shift_58 : decode cX5_shift 58 = .ok (.iload 4, 2) := by decide +kernel
theorem dX5_shift_60 : decode cX5_shift 60 = .ok (.iload_n 2, 1) := by decide +kernel
theorem dX5_shift_61 : decode cX5_shift 61 = .ok (.if_icmp .le 25, 3) := by decide +kernel
theorem dX5_shift_64 : decode cX5_shift 64 = .ok (.aload_n 0, 1) := by decide +kernel
theorem dX5_shift_65 : decode cX5_shift 65 = .ok (.getfield 27, 3) := by decide +kernel
theorem dX5_shift_68 : decode cX5_shift 68 = .ok (.iload 4, 2) := by decide +kernel
theorem dX5_shift_70 : decode cX5_shift 70 = .ok (.aload_n 0, 1) := by decide +kernel
theorem dX5_shift_71 : decode cX5_shift 71 = .ok (.getfield 27, 3) := by decide +kernel
theorem dX5_shift_74 : decode cX5_shift 74 = .ok (.iload 4, 2) := by decide +kernel
theorem dX5_shift_76 : decode cX5_shift 76 = .ok (.iconst 1, 1) := by decide +kernel
theorem dX5_shift_77 : decode cX5_shift 77 = .ok (.isub, 1) := by decide +kernel
theorem dX5_shift_78 : decode cX5_shift 78 = .ok (.iaload, 1) := by decide +kernel
theorem dX5_shift_79 : decode cX5_shift 79 = .ok (.iastore, 1) := by decide +kernel
theorem dX5_shift_80 : decode cX5_shift 80 = .ok (.iinc 4 (-1), 3) := by decide +kernel
theorem dX5_shift_83 : decode cX5_shift 83 = .ok (.goto (-25), 3) := by decide +kernel
theorem dX5_shift_86 : decode cX5_shift 86 = .ok (.aload_n 0, 1) := by decide +kernel
theorem dX5_shift_87 : decode cX5_shift 87 = .ok (.getfield 27, 3) := by decide +kernel
theorem dX5_shift_90 : decode cX5_shift 90 = .ok (.iload_n 2, 1) := by decide +kernel
theorem dX5_shift_91 : decode cX5_shift 91 = .ok (.iload_n 3, 1) := by decide +kernel
theorem dX5_shift_92 : decode cX5_shift 92 = .ok (.iastore, 1) := by decide +kernel
theorem dX5_shift_93 : decode cX5_shift 93 = .ok (.return_, 1) := by decide +kernel
theorem dX5_swapPlaces_0 : decode cX5_swapPlaces 0 = .ok (.aload_n 0, 1) := by decide +kernel
theorem dX5_swapPlaces_1 : decode cX5_swapPlaces 1 = .ok (.iload_n 1, 1) := by decide +kernel
theorem dX5_swapPlaces_2 : decode cX5_swapPlaces 2 = .ok (.invokevirtual 47, 3) := by decide +kernel
theorem dX5_swapPlaces_5 : decode cX5_swapPlaces 5 = .ok (.istore_n 3, 1) := by decide +kernel
theorem dX5_swapPlaces_6 : decode cX5_swapPlaces 6 = .ok (.aload_n 0, 1) := by decide +kernel
theorem dX5_swapPlaces_7 : decode cX5_swapPlaces 7 = .ok (.iload_n 2, 1) := by decide +kernel
theorem dX5_swapPlaces_8 : decode cX5_swapPlaces 8 = .ok (.invokevirtual 47, 3) := by decide +kernel
theorem dX5_swapPlaces_11 : decode cX5_swapPlaces 11 = .ok (.istore 4, 2) := by decide +kernel
theorem dX5_swapPlaces_13 : decode cX5_swapPlaces 13 = .ok (.aload_n 0, 1) := by decide +kernel
theorem dX5_swapPlaces_14 : decode cX5_swapPlaces 14 = .ok (.getfield 27, 3) := by decide +kernel
theorem dX5_swapPlaces_17 : decode cX5_swapPlaces 17 = .ok (.iload_n 3, 1) := by decide +kernel
theorem dX5_swapPlaces_18 : decode cX5_swapPlaces 18 = .ok (.iload_n 2, 1) := by decide +kernel
theorem dX5_swapPlaces_19 : decode cX5_swapPlaces 19 = .ok (.iastore, 1) := by decide +kernel
theorem dX5_swapPlaces_20 : decode cX5_swapPlaces 20 = .ok (.aload_n 0, 1) := by decide +kernel
theorem dX5_swapPlaces_21 : decode cX5_swapPlaces 21 = .ok (.getfield 27, 3) := by decide +kernel
theorem dX5_swapPlaces_24 : decode cX5_swapPlaces 24 = .ok (.iload 4, 2) := by decide +kernel
theorem dX5_swapPlaces_26 : decode cX5_swapPlaces 26 = .ok (.iload_n 1, 1) := by decide +kernel
theorem dX5_swapPlaces_27 : decode cX5_swapPlaces 27 = .ok (.iastore, 1) := by decide +kernel
theorem dX5_swapPlaces_28 : decode cX5_swapPlaces 28 = .ok (.return_, 1) := by decide +kernel
theorem dX6_init_0 : decode cX6_init 0 = .ok (.aload_n 0, 1) := by decide +kernel
theorem dX6_init_1 : decode cX6_init 1 = .ok (.invokespecial 3, 3) := by decide +kernel
theorem dX6_init_4 : decode cX6_init 4 = .ok (.aload_n 0, 1) := by decide +kernel
theorem dX6_init_5 : decode cX6_init 5 = .ok (.bipush 6, 2) := by decide +kernel
theorem dX6_init_7 : decode cX6_init 7 = .ok (.newarray .int, 2) := by decide +kernel
theorem dX6_init_9 : decode cX6_init 9 = .ok (.putfield 9, 3) := by decide +kernel
theorem dX6_init_12 : decode cX6_init 12 = .ok (.aload_n 0, 1) := by decide +kernel
theorem dX6_init_13 : decode cX6_init 13 = .ok (.bipush 6, 2) := by decide +kernel
theorem dX6_init_15 : decode cX6_init 15 = .ok (.newarray .int, 2) := by decide +kernel
theorem dX6_init_17 : decode cX6_init 17 = .ok (.putfield 15, 3) := by decide +kernel
theorem dX6_init_20 : decode cX6_init 20 = .ok (.aload_n 0, 1) := by decide +kernel
theorem dX6_init_21 : decode cX6_init 21 = .ok (.bipush 6, 2) := by decide +kernel
theorem dX6_init_23 : decode cX6_init 23 = .ok (.newarray .int, 2) := by decide +kernel
theorem dX6_init_25 : decode cX6_init 25 = .ok (.putfield 18, 3) := by decide +kernel
theorem dX6_init_28 : decode cX6_init 28 = .ok (.aload_n 0, 1) := by decide +kernel
theorem dX6_init_29 : decode cX6_init 29 = .ok (.sipush 128, 3) := by decide +kernel
theorem dX6_init_32 : decode cX6_init 32 = .ok (.newarray .int, 2) := by decide +kernel
theorem dX6_init_34 : decode cX6_init 34 = .ok (.putfield 21, 3) := by decide +kernel
theorem dX6_init_37 : decode cX6_init 37 = .ok (.return_, 1) := by decide +kernel
theorem dX6_has_0 : decode cX6_has 0 = .ok (.iload_n 1, 1) := by decide +kernel
theorem dX6_has_1 : decode cX6_has 1 = .ok (.ifCond .lt 15, 3) := by decide +kernel
theorem dX6_has_4 : decode cX6_has 4 = .ok (.iload_n 1, 1) := by decide +kernel
theorem dX6_has_5 : decode cX6_has 5 = .ok (.aload_n 0, 1) := by decide +kernel
theorem dX6_has_6 : decode cX6_has 6 = .ok (.getfield 24, 3) := by decide +kernel
theorem dX6_has_9 : decode cX6_has 9 = .ok (.if_icmp .ge 7, 3) := by decide +kernel
theorem dX6_has_12 : decode cX6_has 12 = .ok (.iconst 1, 1) := by decide +kernel
theorem dX6_has_13 : decode cX6_has 13 = .ok (.goto 4, 3) := by decide +kernel
theorem dX6_has_16 : decode cX6_has 16 = .ok (.iconst 0, 1) := by decide +kernel
theorem dX6_has_17 : decode cX6_has 17 = .ok (.ireturn, 1) := by decide +kernel
theorem dX6_add_0 : decode cX6_add 0 = .ok (.aload_n 0, 1) := by decide +kernel
theorem dX6_add_1 : decode cX6_add 1 = .ok (.getfield 24, 3) := by decide +kernel
theorem dX6_add_4 : decode cX6_add 4 = .ok (.bipush 6, 2) := by decide +kernel
theorem dX6_add_6 : decode cX6_add 6 = .ok (.if_icmp .lt 5, 3) := by decide +kernel
theorem dX6_add_9 : decode cX6_add 9 = .ok (.iconst 0, 1) := by decide +kernel
theorem dX6_add_10 : decode cX6_add 10 = .ok (.ireturn, 1) := by decide +kernel
theorem dX6_add_11 : decode cX6_add 11 = .ok (.aload_n 0, 1) := by decide +kernel
theorem dX6_add_12 : decode cX6_add 12 = .ok (.getfield 9, 3) := by decide +kernel
theorem dX6_add_15 : decode cX6_add 15 = .ok (.aload_n 0, 1) := by decide +kernel
theorem dX6_add_16 : decode cX6_add 16 = .ok (.getfield 24, 3) := by decide +kernel
theorem dX6_add_19 : decode cX6_add 19 = .ok (.iload_n 1, 1) := by decide +kernel
theorem dX6_add_20 : decode cX6_add 20 = .ok (.iastore, 1) := by decide +kernel
theorem dX6_add_21 : decode cX6_add 21 = .ok (.aload_n 0, 1) := by decide +kernel
theorem dX6_add_22 : decode cX6_add 22 = .ok (.getfield 15, 3) := by decide +kernel
theorem dX6_add_25 : decode cX6_add 25 = .ok (.aload_n 0, 1) := by decide +kernel
