theorem dX10_guest_71 : decode cX10_guest 71 = .ok (.ireturn, 1) := by decide +kernel
theorem dX10_guest_72 : decode cX10_guest 72 = .ok (.aload_n 0, 1) := by decide +kernel
theorem dX10_guest_73 : decode cX10_guest 73 = .ok (.getfield 38, 3) := by decide +kernel
theorem dX10_guest_76 : decode cX10_guest 76 = .ok (.bipush 7, 2) := by decide +kernel
theorem dX10_guest_78 : decode cX10_guest 78 = .ok (.iload_n 1, 1) := by decide +kernel
theorem dX10_guest_79 : decode cX10_guest 79 = .ok (.iadd, 1) := by decide +kernel
theorem dX10_guest_80 : decode cX10_guest 80 = .ok (.iaload, 1) := by decide +kernel
theorem dX10_guest_81 : decode cX10_guest 81 = .ok (.bipush 100, 2) := by decide +kernel
theorem dX10_guest_83 : decode cX10_guest 83 = .ok (.iadd, 1) := by decide +kernel
theorem dX10_guest_84 : decode cX10_guest 84 = .ok (.ireturn, 1) := by decide +kernel
theorem dX10_guest_85 : decode cX10_guest 85 = .ok (.aload_n 0, 1) := by decide +kernel
theorem dX10_guest_86 : decode cX10_guest 86 = .ok (.getfield 26, 3) := by decide +kernel
theorem dX10_guest_89 : decode cX10_guest 89 = .ok (.iload_n 1, 1) := by decide +kernel
theorem dX10_guest_90 : decode cX10_guest 90 = .ok (.iaload, 1) := by decide +kernel
theorem dX10_guest_91 : decode cX10_guest 91 = .ok (.ireturn, 1) := by decide +kernel
theorem dX10_guest_92 : decode cX10_guest 92 = .ok (.aload_n 0, 1) := by decide +kernel
theorem dX10_guest_93 : decode cX10_guest 93 = .ok (.iload_n 1, 1) := by decide +kernel
theorem dX10_guest_94 : decode cX10_guest 94 = .ok (.invokevirtual 216, 3) := by decide +kernel
theorem dX10_guest_97 : decode cX10_guest 97 = .ok (.ireturn, 1) := by decide +kernel
theorem dX10_guest_98 : decode cX10_guest 98 = .ok (.iconst (-1), 1) := by decide +kernel
theorem dX10_guest_99 : decode cX10_guest 99 = .ok (.ireturn, 1) := by decide +kernel
theorem dX10_isWaiting_0 : decode cX10_isWaiting 0 = .ok (.aload_n 0, 1) := by decide +kernel
theorem dX10_isWaiting_1 : decode cX10_isWaiting 1 = .ok (.getfield 65, 3) := by decide +kernel
theorem dX10_isWaiting_4 : decode cX10_isWaiting 4 = .ok (.iload_n 1, 1) := by decide +kernel
theorem dX10_isWaiting_5 : decode cX10_isWaiting 5 = .ok (.iaload, 1) := by decide +kernel
theorem dX10_isWaiting_6 : decode cX10_isWaiting 6 = .ok (.ifCond .ge 20, 3) := by decide +kernel
theorem dX10_isWaiting_9 : decode cX10_isWaiting 9 = .ok (.aload_n 0, 1) := by decide +kernel
theorem dX10_isWaiting_10 : decode cX10_isWaiting 10 = .ok (.getfield 38, 3) := by decide +kernel
theorem dX10_isWaiting_13 : decode cX10_isWaiting 13 = .ok (.bipush 14, 2) := by decide +kernel
theorem dX10_isWaiting_15 : decode cX10_isWaiting 15 = .ok (.iload_n 1, 1) := by decide +kernel
theorem dX10_isWaiting_16 : decode cX10_isWaiting 16 = .ok (.iadd, 1) := by decide +kernel
theorem dX10_isWaiting_17 : decode cX10_isWaiting 17 = .ok (.iaload, 1) := by decide +kernel
theorem dX10_isWaiting_18 : decode cX10_isWaiting 18 = .ok (.iload_n 2, 1) := by decide +kernel
theorem dX10_isWaiting_19 : decode cX10_isWaiting 19 = .ok (.if_icmp .gt 7, 3) := by decide +kernel
theorem dX10_isWaiting_22 : decode cX10_isWaiting 22 = .ok (.iconst 1, 1) := by decide +kernel
theorem dX10_isWaiting_23 : decode cX10_isWaiting 23 = .ok (.goto 4, 3) := by decide +kernel
theorem dX10_isWaiting_26 : decode cX10_isWaiting 26 = .ok (.iconst 0, 1) := by decide +kernel
theorem dX10_isWaiting_27 : decode cX10_isWaiting 27 = .ok (.ireturn, 1) := by decide +kernel
theorem dX10_lieDown_0 : decode cX10_lieDown 0 = .ok (.aload_n 0, 1) := by decide +kernel
theorem dX10_lieDown_1 : decode cX10_lieDown 1 = .ok (.getfield 65, 3) := by decide +kernel
theorem dX10_lieDown_4 : decode cX10_lieDown 4 = .ok (.iload_n 1, 1) := by decide +kernel
theorem dX10_lieDown_5 : decode cX10_lieDown 5 = .ok (.iload_n 3, 1) := by decide +kernel
theorem dX10_lieDown_6 : decode cX10_lieDown 6 = .ok (.iastore, 1) := by decide +kernel
theorem dX10_lieDown_7 : decode cX10_lieDown 7 = .ok (.aload_n 0, 1) := by decide +kernel
theorem dX10_lieDown_8 : decode cX10_lieDown 8 = .ok (.getfield 68, 3) := by decide +kernel
theorem dX10_lieDown_11 : decode cX10_lieDown 11 = .ok (.iload_n 1, 1) := by decide +kernel
theorem dX10_lieDown_12 : decode cX10_lieDown 12 = .ok (.iload_n 2, 1) := by decide +kernel
theorem dX10_lieDown_13 : decode cX10_lieDown 13 = .ok (.iastore, 1) := by decide +kernel
theorem dX10_lieDown_14 : decode cX10_lieDown 14 = .ok (.aload_n 0, 1) := by decide +kernel
theorem dX10_lieDown_15 : decode cX10_lieDown 15 = .ok (.getfield 71, 3) := by decide +kernel
theorem dX10_lieDown_18 : decode cX10_lieDown 18 = .ok (.iload_n 1, 1) := by decide +kernel
theorem dX10_lieDown_19 : decode cX10_lieDown 19 = .ok (.aload_n 0, 1) := by decide +kernel
theorem dX10_lieDown_20 : decode cX10_lieDown 20 = .ok (.iload_n 1, 1) := by decide +kernel
theorem dX10_lieDown_21 : decode cX10_lieDown 21 = .ok (.iload_n 2, 1) := by decide +kernel
theorem dX10_lieDown_22 : decode cX10_lieDown 22 = .ok (.iload_n 3, 1) := by decide +kernel
theorem dX10_lieDown_23 : decode cX10_lieDown 23 = .ok (.invokevirtual 212, 3) := by decide +kernel
theorem dX10_lieDown_26 : decode cX10_lieDown 26 = .ok (.iastore, 1) := by decide +kernel
theorem dX10_lieDown_27 : decode cX10_lieDown 27 = .ok (.aload_n 0, 1) := by decide +kernel
theorem dX10_lieDown_28 : decode cX10_lieDown 28 = .ok (.getfield 74, 3) := by decide +kernel
theorem dX10_lieDown_31 : decode cX10_lieDown 31 = .ok (.iload_n 1, 1) := by decide +kernel
theorem dX10_lieDown_32 : decode cX10_lieDown 32 = .ok (.iload 4, 2) := by decide +kernel
theorem dX10_lieDown_34 : decode cX10_lieDown 34 = .ok (.iastore, 1) := by decide +kernel
theorem dX10_lieDown_35 : decode cX10_lieDown 35 = .ok (.return_, 1) := by decide +kernel
theorem dX10_give_0 : decode cX10_give 0 = .ok (.bipush (-4), 2) := by decide +kernel
theorem dX10_give_2 : decode cX10_give 2 = .ok (.istore_n 3, 1) := by decide +kernel
theorem dX10_give_3 : decode cX10_give 3 = .ok (.aload_n 0, 1) := by decide +kernel
theorem dX10_give_4 : decode cX10_give 4 = .ok (.getfield 29, 3) := by decide +kernel
theorem dX10_give_7 : decode cX10_give 7 = .ok (.iconst 1, 1) := by decide +kernel
theorem dX10_give_8 : decode cX10_give 8 = .ok (.isub, 1) := by decide +kernel
theorem dX10_give_9 : decode cX10_give 9 = .ok (.istore 4, 2) := by decide +kernel
theorem dX10_give_11 : decode cX10_give 11 = .ok (.iload 4, 2) := by decide +kernel
theorem dX10_give_13 : decode cX10_give 13 = .ok (.ifCond .lt 36, 3) := by decide +kernel
theorem dX10_give_16 : decode cX10_give 16 = .ok (.aload_n 0, 1) := by decide +kernel
theorem dX10_give_17 : decode cX10_give 17 = .ok (.aload_n 0, 1) := by decide +kernel
theorem dX10_give_18 : decode cX10_give 18 = .ok (.getfield 38, 3) := by decide +kernel
theorem dX10_give_21 : decode cX10_give 21 = .ok (.iload 4, 2) := by decide +kernel
theorem dX10_give_23 : decode cX10_give 23 = .ok (.iaload, 1) := by decide +kernel
theorem dX10_give_24 : decode cX10_give 24 = .ok (.iload_n 2, 1) := by decide +kernel
theorem dX10_give_25 : decode cX10_give 25 = .ok (.invokevirtual 220, 3) := by decide +kernel
theorem dX10_give_28 : decode cX10_give 28 = .ok (.ifCond .eq 13, 3) := by decide +kernel
theorem dX10_give_31 : decode cX10_give 31 = .ok (.aload_n 0, 1) := by decide +kernel
theorem dX10_give_32 : decode cX10_give 32 = .ok (.getfield 38, 3) := by decide +kernel
theorem dX10_give_35 : decode cX10_give 35 = .ok (.iload 4, 2) := by decide +kernel
theorem dX10_give_37 : decode cX10_give 37 = .ok (.iaload, 1) := by decide +kernel
theorem dX10_give_38 : decode cX10_give 38 = .ok (.goto 4, 3) := by decide +kernel
theorem dX10_give_41 : decode cX10_give 41 = .ok (.iload_n 3, 1) := by decide +kernel
theorem dX10_give_42 : decode cX10_give 42 = .ok (.istore_n 3, 1) := by decide +kernel
theorem dX10_give_43 : decode cX10_give 43 = .ok (.iinc 4 (-1), 3) := by decide +kernel
theorem dX10_give_46 : decode cX10_give 46 = .ok (.goto (-35), 3) := by decide +kernel
theorem dX10_give_49 : decode cX10_give 49 = .ok (.iload_n 3, 1) := by decide +kernel
theorem dX10_give_50 : decode cX10_give 50 = .ok (.ifCond .ge 4, 3) := by decide +kernel
theorem dX10_give_53 : decode cX10_give 53 = .ok (.return_, 1) := by decide +kernel
theorem dX10_give_54 : decode cX10_give 54 = .ok (.aload_n 0, 1) := by decide +kernel
theorem dX10_give_55 : decode cX10_give 55 = .ok (.getfield 77, 3) := by decide +kernel
theorem dX10_give_58 : decode cX10_give 58 = .ok (.iload_n 3, 1) := by decide +kernel
theorem dX10_give_59 : decode cX10_give 59 = .ok (.dup2, 1) := by decide +kernel
theorem dX10_give_60 : decode cX10_give 60 = .ok (.iaload, 1) := by decide +kernel
theorem dX10_give_61 : decode cX10_give 61 = .ok (.iconst 1, 1) := by decide +kernel
theorem dX10_give_62 : decode cX10_give 62 = .ok (.iadd, 1) := by decide +kernel
theorem dX10_give_63 : decode cX10_give 63 = .ok (.iastore, 1) := by decide +kernel
theorem dX10_give_64 : decode cX10_give 64 = .ok (.bipush (-4), 2) := by decide +kernel
theorem dX10_give_66 : decode cX10_give 66 = .ok (.istore 4, 2) := by decide +kernel
theorem dX10_give_68 : decode cX10_give 68 = .ok (.aload_n 0, 1) := by decide +kernel
theorem dX10_give_69 : decode cX10_give 69 = .ok (.getfield 29, 3) := by decide +kernel
theorem dX10_give_72 : decode cX10_give 72 = .ok (.iconst 1, 1) := by decide +kernel
theorem dX10_give_73 : decode cX10_give 73 = .ok (.isub, 1) := by decide +kernel
theorem dX10_give_74 : decode cX10_give 74 = .ok (.istore 5, 2) := by decide +kernel
theorem dX10_give_76 : decode cX10_give 76 = .ok (.iload 5, 2) := by decide +kernel
theorem dX10_give_78 : decode cX10_give 78 = .ok (.ifCond .lt 100, 3) := by decide +kernel
theorem dX10_give_81 : decode cX10_give 81 = .ok (.iload 5, 2) := by decide +kernel
theorem dX10_give_83 : decode cX10_give 83 = .ok (.iload_n 3, 1) := by decide +kernel
theorem dX10_give_84 : decode cX10_give 84 = .ok (.if_icmp .eq 47, 3) := by decide +kernel
theorem dX10_give_87 : decode cX10_give 87 = .ok (.aload_n 0, 1) := by decide +kernel
theorem dX10_give_88 : decode cX10_give 88 = .ok (.iload 5, 2) := by decide +kernel
theorem dX10_give_90 : decode cX10_give 90 = .ok (.iload_n 2, 1) := by decide +kernel
theorem dX10_give_91 : decode cX10_give 91 = .ok (.invokevirtual 220, 3) := by decide +kernel
theorem dX10_give_94 : decode cX10_give 94 = .ok (.ifCond .eq 37, 3) := by decide +kernel
theorem dX10_give_97 : decode cX10_give 97 = .ok (.aload_n 0, 1) := by decide +kernel
theorem dX10_give_98 : decode cX10_give 98 = .ok (.getfield 35, 3) := by decide +kernel
theorem dX10_give_101 : decode cX10_give 101 = .ok (.iconst 2, 1) := by decide +kernel
theorem dX10_give_102 : decode cX10_give 102 = .ok (.if_icmp .eq 25, 3) := by decide +kernel
theorem dX10_give_105 : decode cX10_give 105 = .ok (.aload_n 0, 1) := by decide +kernel
theorem dX10_give_106 : decode cX10_give 106 = .ok (.getfield 35, 3) := by decide +kernel
theorem dX10_give_109 : decode cX10_give 109 = .ok (.iconst 1, 1) := by decide +kernel
theorem dX10_give_110 : decode cX10_give 110 = .ok (.if_icmp .ne 21, 3) := by decide +kernel
theorem dX10_give_113 : decode cX10_give 113 = .ok (.aload_n 0, 1) := by decide +kernel
theorem dX10_give_114 : decode cX10_give 114 = .ok (.getfield 26, 3) := by decide +kernel
theorem dX10_give_117 : decode cX10_give 117 = .ok (.iload_n 3, 1) := by decide +kernel
theorem dX10_give_118 : decode cX10_give 118 = .ok (.iaload, 1) := by decide +kernel
theorem dX10_give_119 : decode cX10_give 119 = .ok (.iload 5, 2) := by decide +kernel
theorem dX10_give_121 : decode cX10_give 121 = .ok (.invokestatic 224, 3) := by decide +kernel
theorem dX10_give_124 : decode cX10_give 124 = .ok (.ifCond .eq 7, 3) := by decide +kernel
theorem dX10_give_127 : decode cX10_give 127 = .ok (.iconst 1, 1) := by decide +kernel
theorem dX10_give_128 : decode cX10_give 128 = .ok (.goto 4, 3) := by decide +kernel
theorem dX10_give_131 : decode cX10_give 131 = .ok (.iconst 0, 1) := by decide +kernel
theorem dX10_give_132 : decode cX10_give 132 = .ok (.istore 6, 2) := by decide +kernel
theorem dX10_give_134 : decode cX10_give 134 = .ok (.iload 6, 2) := by decide +kernel
theorem dX10_give_136 : decode cX10_give 136 = .ok (.ifCond .eq 32, 3) := by decide +kernel
theorem dX10_give_139 : decode cX10_give 139 = .ok (.iload 4, 2) := by decide +kernel
theorem dX10_give_141 : decode cX10_give 141 = .ok (.ifCond .lt 22, 3) := by decide +kernel
theorem dX10_give_144 : decode cX10_give 144 = .ok (.aload_n 0, 1) := by decide +kernel
theorem dX10_give_145 : decode cX10_give 145 = .ok (.iload 5, 2) := by decide +kernel
theorem dX10_give_147 : decode cX10_give 147 = .ok (.iload_n 1, 1) := by decide +kernel
theorem dX10_give_148 : decode cX10_give 148 = .ok (.iload_n 2, 1) := by decide +kernel
theorem dX10_give_149 : decode cX10_give 149 = .ok (.invokevirtual 212, 3) := by decide +kernel
theorem dX10_give_152 : decode cX10_give 152 = .ok (.aload_n 0, 1) := by decide +kernel
theorem dX10_give_153 : decode cX10_give 153 = .ok (.iload 4, 2) := by decide +kernel
theorem dX10_give_155 : decode cX10_give 155 = .ok (.iload_n 1, 1) := by decide +kernel
theorem dX10_give_156 : decode cX10_give 156 = .ok (.iload_n 2, 1) := by decide +kernel
theorem dX10_give_157 : decode cX10_give 157 = .ok (.invokevirtual 212, 3) := by decide +kernel
theorem dX10_give_160 : decode cX10_give 160 = .ok (.if_icmp .gt 8, 3) := by decide +kernel
theorem dX10_give_163 : decode cX10_give 163 = .ok (.iload 5, 2) := by decide +kernel
theorem dX10_give_165 : decode cX10_give 165 = .ok (.goto 5, 3) := by decide +kernel
theorem dX10_give_168 : decode cX10_give 168 = .ok (.iload 4, 2) := by decide +kernel
theorem dX10_give_170 : decode cX10_give 170 = .ok (.istore 4, 2) := by decide +kernel
theorem dX10_give_172 : decode cX10_give 172 = .ok (.iinc 5 (-1), 3) := by decide +kernel
theorem dX10_give_175 : decode cX10_give 175 = .ok (.goto (-99), 3) := by decide +kernel
theorem dX10_give_178 : decode cX10_give 178 = .ok (.iload 4, 2) := by decide +kernel
theorem dX10_give_180 : decode cX10_give 180 = .ok (.ifCond .lt 25, 3) := by decide +kernel
theorem dX10_give_183 : decode cX10_give 183 = .ok (.aload_n 0, 1) := by decide +kernel
theorem dX10_give_184 : decode cX10_give 184 = .ok (.iload 4, 2) := by decide +kernel
theorem dX10_give_186 : decode cX10_give 186 = .ok (.iload_n 1, 1) := by decide +kernel
theorem dX10_give_187 : decode cX10_give 187 = .ok (.iload_n 2, 1) := by decide +kernel
theorem dX10_give_188 : decode cX10_give 188 = .ok (.invokevirtual 212, 3) := by decide +kernel
theorem dX10_give_191 : decode cX10_give 191 = .ok (.aload_n 0, 1) := by decide +kernel
theorem dX10_give_192 : decode cX10_give 192 = .ok (.iload_n 3, 1) := by decide +kernel
theorem dX10_give_193 : decode cX10_give 193 = .ok (.iload_n 1, 1) := by decide +kernel
theorem dX10_give_194 : decode cX10_give 194 = .ok (.iload_n 2, 1) := by decide +kernel
theorem dX10_give_195 : decode cX10_give 195 = .ok (.invokevirtual 212, 3) := by decide +kernel
theorem dX10_give_198 : decode cX10_give 198 = .ok (.if_icmp .ge 7, 3) := by decide +kernel
theorem dX10_give_201 : decode cX10_give 201 = .ok (.iconst 1, 1) := by decide +kernel
theorem dX10_give_202 : decode cX10_give 202 = .ok (.goto 4, 3) := by decide +kernel
theorem dX10_give_205 : decode cX10_give 205 = .ok (.iconst 0, 1) := by decide +kernel
theorem dX10_give_206 : decode cX10_give 206 = .ok (.istore 5, 2) := by decide +kernel
theorem dX10_give_208 : decode cX10_give 208 = .ok (.aload_n 0, 1) := by decide +kernel
theorem dX10_give_209 : decode cX10_give 209 = .ok (.iload 5, 2) := by decide +kernel
theorem dX10_give_211 : decode cX10_give 211 = .ok (.ifCond .eq 8, 3) := by decide +kernel
theorem dX10_give_214 : decode cX10_give 214 = .ok (.iload 4, 2) := by decide +kernel
theorem dX10_give_216 : decode cX10_give 216 = .ok (.goto 4, 3) := by decide +kernel
theorem dX10_give_219 : decode cX10_give 219 = .ok (.iload_n 3, 1) := by decide +kernel
theorem dX10_give_220 : decode cX10_give 220 = .ok (.iload_n 1, 1) := by decide +kernel
theorem dX10_give_221 : decode cX10_give 221 = .ok (.iload_n 2, 1) := by decide +kernel
theorem dX10_give_222 : decode cX10_give 222 = .ok (.iload 5, 2) := by decide +kernel
theorem dX10_give_224 : decode cX10_give 224 = .ok (.ifCond .eq 7, 3) := by decide +kernel
theorem dX10_give_227 : decode cX10_give 227 = .ok (.iload_n 3, 1) := by decide +kernel
theorem dX10_give_228 : decode cX10_give 228 = .ok (.goto 5, 3) := by decide +kernel
theorem dX10_give_231 : decode cX10_give 231 = .ok (.bipush (-4), 2) := by decide +kernel
theorem dX10_give_233 : decode cX10_give 233 = .ok (.invokevirtual 227, 3) := by decide +kernel
theorem dX10_give_236 : decode cX10_give 236 = .ok (.return_, 1) := by decide +kernel
theorem dX10_stay_0 : decode cX10_stay 0 = .ok (.iconst 0, 1) := by decide +kernel
theorem dX10_stay_1 : decode cX10_stay 1 = .ok (.istore_n 2, 1) := by decide +kernel
theorem dX10_stay_2 : decode cX10_stay 2 = .ok (.iload_n 2, 1) := by decide +kernel
theorem dX10_stay_3 : decode cX10_stay 3 = .ok (.aload_n 0, 1) := by decide +kernel
theorem dX10_stay_4 : decode cX10_stay 4 = .ok (.getfield 29, 3) := by decide +kernel
theorem dX10_stay_7 : decode cX10_stay 7 = .ok (.if_icmp .ge 32, 3) := by decide +kernel
theorem dX10_stay_10 : decode cX10_stay 10 = .ok (.aload_n 0, 1) := by decide +kernel
theorem dX10_stay_11 : decode cX10_stay 11 = .ok (.getfield 65, 3) := by decide +kernel
theorem dX10_stay_14 : decode cX10_stay 14 = .ok (.iload_n 2, 1) := by decide +kernel
theorem dX10_stay_15 : decode cX10_stay 15 = .ok (.bipush (-4), 2) := by decide +kernel
theorem dX10_stay_17 : decode cX10_stay 17 = .ok (.iastore, 1) := by decide +kernel
theorem dX10_stay_18 : decode cX10_stay 18 = .ok (.aload_n 0, 1) := by decide +kernel
theorem dX10_stay_19 : decode cX10_stay 19 = .ok (.getfield 71, 3) := by decide +kernel
theorem dX10_stay_22 : decode cX10_stay 22 = .ok (.iload_n 2, 1) := by decide +kernel
theorem dX10_stay_23 : decode cX10_stay 23 = .ok (.bipush 50, 2) := by decide +kernel
theorem dX10_stay_25 : decode cX10_stay 25 = .ok (.iastore, 1) := by decide +kernel
theorem dX10_stay_26 : decode cX10_stay 26 = .ok (.aload_n 0, 1) := by decide +kernel
theorem dX10_stay_27 : decode cX10_stay 27 = .ok (.getfield 77, 3) := by decide +kernel
theorem dX10_stay_30 : decode cX10_stay 30 = .ok (.iload_n 2, 1) := by decide +kernel
theorem dX10_stay_31 : decode cX10_stay 31 = .ok (.iconst 0, 1) := by decide +kernel
theorem dX10_stay_32 : decode cX10_stay 32 = .ok (.iastore, 1) := by decide +kernel
theorem dX10_stay_33 : decode cX10_stay 33 = .ok (.iinc 2 1, 3) := by decide +kernel
theorem dX10_stay_36 : decode cX10_stay 36 = .ok (.goto (-34), 3) := by decide +kernel
theorem dX10_stay_39 : decode cX10_stay 39 = .ok (.iconst 0, 1) := by decide +kernel
theorem dX10_stay_40 : decode cX10_stay 40 = .ok (.istore_n 2, 1) := by decide +kernel
theorem dX10_stay_41 : decode cX10_stay 41 = .ok (.iload_n 2, 1) := by decide +kernel
theorem dX10_stay_42 : decode cX10_stay 42 = .ok (.bipush 30, 2) := by decide +kernel
theorem dX10_stay_44 : decode cX10_stay 44 = .ok (.if_icmp .ge 28, 3) := by decide +kernel
theorem dX10_stay_47 : decode cX10_stay 47 = .ok (.iconst 0, 1) := by decide +kernel
theorem dX10_stay_48 : decode cX10_stay 48 = .ok (.istore_n 3, 1) := by decide +kernel
theorem dX10_stay_49 : decode cX10_stay 49 = .ok (.iload_n 3, 1) := by decide +kernel
theorem dX10_stay_50 : decode cX10_stay 50 = .ok (.iload_n 1, 1) := by decide +kernel
theorem dX10_stay_51 : decode cX10_stay 51 = .ok (.if_icmp .ge 15, 3) := by decide +kernel
theorem dX10_stay_54 : decode cX10_stay 54 = .ok (.aload_n 0, 1) := by decide +kernel
theorem dX10_stay_55 : decode cX10_stay 55 = .ok (.iload_n 3, 1) := by decide +kernel
theorem dX10_stay_56 : decode cX10_stay 56 = .ok (.iload_n 2, 1) := by decide +kernel
theorem dX10_stay_57 : decode cX10_stay 57 = .ok (.invokevirtual 231, 3) := by decide +kernel
theorem dX10_stay_60 : decode cX10_stay 60 = .ok (.iinc 3 1, 3) := by decide +kernel
theorem dX10_stay_63 : decode cX10_stay 63 = .ok (.goto (-14), 3) := by decide +kernel
theorem dX10_stay_66 : decode cX10_stay 66 = .ok (.iinc 2 1, 3) := by decide +kernel
theorem dX10_stay_69 : decode cX10_stay 69 = .ok (.goto (-28), 3) := by decide +kernel
theorem dX10_stay_72 : decode cX10_stay 72 = .ok (.iconst 0, 1) := by decide +kernel
theorem dX10_stay_73 : decode cX10_stay 73 = .ok (.istore_n 2, 1) := by decide +kernel
theorem dX10_stay_74 : decode cX10_stay 74 = .ok (.iconst 0, 1) := by decide +kernel
theorem dX10_stay_75 : decode cX10_stay 75 = .ok (.istore_n 3, 1) := by decide +kernel
theorem dX10_stay_76 : decode cX10_stay 76 = .ok (.iload_n 3, 1) := by decide +kernel
theorem dX10_stay_77 : decode cX10_stay 77 = .ok (.aload_n 0, 1) := by decide +kernel
theorem dX10_stay_78 : decode cX10_stay 78 = .ok (.getfield 29, 3) := by decide +kernel
theorem dX10_stay_81 : decode cX10_stay 81 = .ok (.if_icmp .ge 18, 3) := by decide +kernel
theorem dX10_stay_84 : decode cX10_stay 84 = .ok (.iload_n 2, 1) := by decide +kernel
theorem dX10_stay_85 : decode cX10_stay 85 = .ok (.aload_n 0, 1) := by decide +kernel
theorem dX10_stay_86 : decode cX10_stay 86 = .ok (.getfield 71, 3) := by decide +kernel
theorem dX10_stay_89 : decode cX10_stay 89 = .ok (.iload_n 3, 1) := by decide +kernel
theorem dX10_stay_90 : decode cX10_stay 90 = .ok (.iaload, 1) := by decide +kernel
theorem dX10_stay_91 : decode cX10_stay 91 = .ok (.iadd, 1) := by decide +kernel
theorem dX10_stay_92 : decode cX10_stay 92 = .ok (.istore_n 2, 1) := by decide +kernel
theorem dX10_stay_93 : decode cX10_stay 93 = .ok (.iinc 3 1, 3) := by decide +kernel
theorem dX10_stay_96 : decode cX10_stay 96 = .ok (.goto (-20), 3) := by decide +kernel
theorem dX10_stay_99 : decode cX10_stay 99 = .ok (.iload_n 2, 1) := by decide +kernel
theorem dX10_stay_100 : decode cX10_stay 100 = .ok (.ireturn, 1) := by decide +kernel
theorem dX10_lies_0 : decode cX10_lies 0 = .ok (.aload_n 0, 1) := by decide +kernel
theorem dX10_lies_1 : decode cX10_lies 1 = .ok (.iload_n 1, 1) := by decide +kernel
theorem dX10_lies_2 : decode cX10_lies 2 = .ok (.invokevirtual 209, 3) := by decide +kernel
theorem dX10_lies_5 : decode cX10_lies 5 = .ok (.ifCond .eq 15, 3) := by decide +kernel
theorem dX10_lies_8 : decode cX10_lies 8 = .ok (.iload_n 2, 1) := by decide +kernel
theorem dX10_lies_9 : decode cX10_lies 9 = .ok (.i2l, 1) := by decide +kernel
theorem dX10_lies_10 : decode cX10_lies 10 = .ok (.lconst 0, 1) := by decide +kernel
theorem dX10_lies_11 : decode cX10_lies 11 = .ok (.ldc2_w 143, 3) := by decide +kernel
theorem dX10_lies_14 : decode cX10_lies 14 = .ok (.invokestatic 101, 3) := by decide +kernel
theorem dX10_lies_17 : decode cX10_lies 17 = .ok (.ifCond .ne 5, 3) := by decide +kernel
theorem dX10_lies_20 : decode cX10_lies 20 = .ok (.iconst (-1), 1) := by decide +kernel
theorem dX10_lies_21 : decode cX10_lies 21 = .ok (.ireturn, 1) := by decide +kernel
theorem dX10_lies_22 : decode cX10_lies 22 = .ok (.aload_n 0, 1) := by decide +kernel
theorem dX10_lies_23 : decode cX10_lies 23 = .ok (.aload_n 0, 1) := by decide +kernel
theorem dX10_lies_24 : decode cX10_lies 24 = .ok (.getfield 13, 3) := by decide +kernel
theorem dX10_lies_27 : decode cX10_lies 27 = .ok (.invokevirtual 235, 3) := by decide +kernel
theorem dX10_lies_30 : decode cX10_lies 30 = .ok (.pop, 1) := by decide +kernel
theorem dX10_lies_31 : decode cX10_lies 31 = .ok (.aload_n 0, 1) := by decide +kernel
theorem dX10_lies_32 : decode cX10_lies 32 = .ok (.getfield 65, 3) := by decide +kernel
theorem dX10_lies_35 : decode cX10_lies 35 = .ok (.iload_n 1, 1) := by decide +kernel
theorem dX10_lies_36 : decode cX10_lies 36 = .ok (.iaload, 1) := by decide +kernel
theorem dX10_lies_37 : decode cX10_lies 37 = .ok (.ifCond .ge 6, 3) := by decide +kernel
theorem dX10_lies_40 : decode cX10_lies 40 = .ok (.bipush (-4), 2) := by decide +kernel
theorem dX10_lies_42 : decode cX10_lies 42 = .ok (.ireturn, 1) := by decide +kernel
theorem dX10_lies_43 : decode cX10_lies 43 = .ok (.iload_n 2, 1) := by decide +kernel
theorem dX10_lies_44 : decode cX10_lies 44 = .ok (.ifCond .ne 12, 3) := by decide +kernel
theorem dX10_lies_47 : decode cX10_lies 47 = .ok (.aload_n 0, 1) := by decide +kernel
theorem dX10_lies_48 : decode cX10_lies 48 = .ok (.getfield 65, 3) := by decide +kernel
theorem dX10_lies_51 : decode cX10_lies 51 = .ok (.iload_n 1, 1) := by decide +kernel
theorem dX10_lies_52 : decode cX10_lies 52 = .ok (.iaload, 1) := by decide +kernel
theorem dX10_lies_53 : decode cX10_lies 53 = .ok (.goto 51, 3) := by decide +kernel
theorem dX10_lies_56 : decode cX10_lies 56 = .ok (.iload_n 2, 1) := by decide +kernel
theorem dX10_lies_57 : decode cX10_lies 57 = .ok (.iconst 1, 1) := by decide +kernel
theorem dX10_lies_58 : decode cX10_lies 58 = .ok (.if_icmp .ne 12, 3) := by decide +kernel
theorem dX10_lies_61 : decode cX10_lies 61 = .ok (.aload_n 0, 1) := by decide +kernel
theorem dX10_lies_62 : decode cX10_lies 62 = .ok (.getfield 68, 3) := by decide +kernel
theorem dX10_lies_65 : decode cX10_lies 65 = .ok (.iload_n 1, 1) := by decide +kernel
theorem dX10_lies_66 : decode cX10_lies 66 = .ok (.iaload, 1) := by decide +kernel
theorem dX10_lies_67 : decode cX10_lies 67 = .ok (.goto 37, 3) := by decide +kernel
theorem dX10_lies_70 : decode cX10_lies 70 = .ok (.iload_n 2, 1) := by decide +kernel
theorem dX10_lies_71 : decode cX10_lies 71 = .ok (.iconst 2, 1) := by decide +kernel
theorem dX10_lies_72 : decode cX10_lies 72 = .ok (.if_icmp .ne 12, 3) := by decide +kernel
theorem dX10_lies_75 : decode cX10_lies 75 = .ok (.aload_n 0, 1) := by decide +kernel
theorem dX10_lies_76 : decode cX10_lies 76 = .ok (.getfield 71, 3) := by decide +kernel
theorem dX10_lies_79 : decode cX10_lies 79 = .ok (.iload_n 1, 1) := by decide +kernel
theorem dX10_lies_80 : decode cX10_lies 80 = .ok (.iaload, 1) := by decide +kernel
theorem dX10_lies_81 : decode cX10_lies 81 = .ok (.goto 23, 3) := by decide +kernel
theorem dX10_lies_84 : decode cX10_lies 84 = .ok (.iload_n 2, 1) := by decide +kernel
theorem dX10_lies_85 : decode cX10_lies 85 = .ok (.iconst 3, 1) := by decide +kernel
theorem dX10_lies_86 : decode cX10_lies 86 = .ok (.if_icmp .ne 12, 3) := by decide +kernel
theorem dX10_lies_89 : decode cX10_lies 89 = .ok (.aload_n 0, 1) := by decide +kernel
theorem dX10_lies_90 : decode cX10_lies 90 = .ok (.getfield 74, 3) := by decide +kernel
theorem dX10_lies_93 : decode cX10_lies 93 = .ok (.iload_n 1, 1) := by decide +kernel
theorem dX10_lies_94 : decode cX10_lies 94 = .ok (.iaload, 1) := by decide +kernel
theorem dX10_lies_95 : decode cX10_lies 95 = .ok (.goto 9, 3) := by decide +kernel
theorem dX10_lies_98 : decode cX10_lies 98 = .ok (.aload_n 0, 1) := by decide +kernel
theorem dX10_lies_99 : decode cX10_lies 99 = .ok (.getfield 77, 3) := by decide +kernel
theorem dX10_lies_102 : decode cX10_lies 102 = .ok (.iload_n 1, 1) := by decide +kernel
theorem dX10_lies_103 : decode cX10_lies 103 = .ok (.iaload, 1) := by decide +kernel
theorem dX10_lies_104 : decode cX10_lies 104 = .ok (.ireturn, 1) := by decide +kernel
theorem dX10_who_0 : decode cX10_who 0 = .ok (.aload_n 0, 1) := by decide +kernel
theorem dX10_who_1 : decode cX10_who 1 = .ok (.iload_n 1, 1) := by decide +kernel
theorem dX10_who_2 : decode cX10_who 2 = .ok (.invokevirtual 193, 3) := by decide +kernel
theorem dX10_who_5 : decode cX10_who 5 = .ok (.ifCond .eq 10, 3) := by decide +kernel
theorem dX10_who_8 : decode cX10_who 8 = .ok (.iload_n 2, 1) := by decide +kernel
theorem dX10_who_9 : decode cX10_who 9 = .ok (.invokestatic 196, 3) := by decide +kernel
theorem dX10_who_12 : decode cX10_who 12 = .ok (.ifCond .ne 5, 3) := by decide +kernel
theorem dX10_who_15 : decode cX10_who 15 = .ok (.iconst (-1), 1) := by decide +kernel
theorem dX10_who_16 : decode cX10_who 16 = .ok (.ireturn, 1) := by decide +kernel
theorem dX10_who_17 : decode cX10_who 17 = .ok (.aload_n 0, 1) := by decide +kernel
theorem dX10_who_18 : decode cX10_who 18 = .ok (.aload_n 0, 1) := by decide +kernel
theorem dX10_who_19 : decode cX10_who 19 = .ok (.getfield 13, 3) := by decide +kernel
theorem dX10_who_22 : decode cX10_who 22 = .ok (.invokevirtual 235, 3) := by decide +kernel
theorem dX10_who_25 : decode cX10_who 25 = .ok (.pop, 1) := by decide +kernel
theorem dX10_who_26 : decode cX10_who 26 = .ok (.bipush (-4), 2) := by decide +kernel
theorem dX10_who_28 : decode cX10_who 28 = .ok (.istore_n 3, 1) := by decide +kernel
theorem dX10_who_29 : decode cX10_who 29 = .ok (.iconst 0, 1) := by decide +kernel
theorem dX10_who_30 : decode cX10_who 30 = .ok (.istore 4, 2) := by decide +kernel
theorem dX10_who_32 : decode cX10_who 32 = .ok (.iload 4, 2) := by decide +kernel
theorem dX10_who_34 : decode cX10_who 34 = .ok (.aload_n 0, 1) := by decide +kernel
theorem dX10_who_35 : decode cX10_who 35 = .ok (.getfield 29, 3) := by decide +kernel
theorem dX10_who_38 : decode cX10_who 38 = .ok (.if_icmp .ge 38, 3) := by decide +kernel
theorem dX10_who_41 : decode cX10_who 41 = .ok (.aload_n 0, 1) := by decide +kernel
theorem dX10_who_42 : decode cX10_who 42 = .ok (.getfield 65, 3) := by decide +kernel
theorem dX10_who_45 : decode cX10_who 45 = .ok (.iload 4, 2) := by decide +kernel
theorem dX10_who_47 : decode cX10_who 47 = .ok (.iaload, 1) := by decide +kernel
theorem dX10_who_48 : decode cX10_who 48 = .ok (.iload_n 2, 1) := by decide +kernel
theorem dX10_who_49 : decode cX10_who 49 = .ok (.if_icmp .ne 19, 3) := by decide +kernel
theorem dX10_who_52 : decode cX10_who 52 = .ok (.aload_n 0, 1) := by decide +kernel
theorem dX10_who_53 : decode cX10_who 53 = .ok (.getfield 68, 3) := by decide +kernel
theorem dX10_who_56 : decode cX10_who 56 = .ok (.iload 4, 2) := by decide +kernel
theorem dX10_who_58 : decode cX10_who 58 = .ok (.iaload, 1) := by decide +kernel
theorem dX10_who_59 : decode cX10_who 59 = .ok (.iload_n 1, 1) := by decide +kernel
theorem dX10_who_60 : decode cX10_who 60 = .ok (.if_icmp .ne 8, 3) := by decide +kernel
theorem dX10_who_63 : decode cX10_who 63 = .ok (.iload 4, 2) := by decide +kernel
theorem dX10_who_65 : decode cX10_who 65 = .ok (.goto 4, 3) := by decide +kernel
theorem dX10_who_68 : decode cX10_who 68 = .ok (.iload_n 3, 1) := by decide +kernel
theorem dX10_who_69 : decode cX10_who 69 = .ok (.istore_n 3, 1) := by decide +kernel
theorem dX10_who_70 : decode cX10_who 70 = .ok (.iinc 4 1, 3) := by decide +kernel
theorem dX10_who_73 : decode cX10_who 73 = .ok (.goto (-41), 3) := by decide +kernel
theorem dX10_who_76 : decode cX10_who 76 = .ok (.iload_n 3, 1) := by decide +kernel
theorem dX10_who_77 : decode cX10_who 77 = .ok (.ireturn, 1) := by decide +kernel
theorem dX10_unharmed_0 : decode cX10_unharmed 0 = .ok (.iconst 0, 1) := by decide +kernel
theorem dX10_unharmed_1 : decode cX10_unharmed 1 = .ok (.istore_n 1, 1) := by decide +kernel
theorem dX10_unharmed_2 : decode cX10_unharmed 2 = .ok (.iconst 0, 1) := by decide +kernel
theorem dX10_unharmed_3 : decode cX10_unharmed 3 = .ok (.istore_n 2, 1) := by decide +kernel
theorem dX10_unharmed_4 : decode cX10_unharmed 4 = .ok (.iload_n 2, 1) := by decide +kernel
theorem dX10_unharmed_5 : decode cX10_unharmed 5 = .ok (.aload_n 0, 1) := by decide +kernel
theorem dX10_unharmed_6 : decode cX10_unharmed 6 = .ok (.getfield 29, 3) := by decide +kernel
theorem dX10_unharmed_9 : decode cX10_unharmed 9 = .ok (.if_icmp .ge 35, 3) := by decide +kernel
theorem dX10_unharmed_12 : decode cX10_unharmed 12 = .ok (.iload_n 1, 1) := by decide +kernel
theorem dX10_unharmed_13 : decode cX10_unharmed 13 = .ok (.aload_n 0, 1) := by decide +kernel
theorem dX10_unharmed_14 : decode cX10_unharmed 14 = .ok (.getfield 65, 3) := by decide +kernel
theorem dX10_unharmed_17 : decode cX10_unharmed 17 = .ok (.iload_n 2, 1) := by decide +kernel
theorem dX10_unharmed_18 : decode cX10_unharmed 18 = .ok (.iaload, 1) := by decide +kernel
theorem dX10_unharmed_19 : decode cX10_unharmed 19 = .ok (.ifCond .lt 16, 3) := by decide +kernel
theorem dX10_unharmed_22 : decode cX10_unharmed 22 = .ok (.aload_n 0, 1) := by decide +kernel
theorem dX10_unharmed_23 : decode cX10_unharmed 23 = .ok (.getfield 71, 3) := by decide +kernel
theorem dX10_unharmed_26 : decode cX10_unharmed 26 = .ok (.iload_n 2, 1) := by decide +kernel
theorem dX10_unharmed_27 : decode cX10_unharmed 27 = .ok (.iaload, 1) := by decide +kernel
theorem dX10_unharmed_28 : decode cX10_unharmed 28 = .ok (.ifCond .ne 7, 3) := by decide +kernel
theorem dX10_unharmed_31 : decode cX10_unharmed 31 = .ok (.iconst 1, 1) := by decide +kernel
theorem dX10_unharmed_32 : decode cX10_unharmed 32 = .ok (.goto 4, 3) := by decide +kernel
theorem dX10_unharmed_35 : decode cX10_unharmed 35 = .ok (.iconst 0, 1) := by decide +kernel
theorem dX10_unharmed_36 : decode cX10_unharmed 36 = .ok (.iadd, 1) := by decide +kernel
theorem dX10_unharmed_37 : decode cX10_unharmed 37 = .ok (.istore_n 1, 1) := by decide +kernel
theorem dX10_unharmed_38 : decode cX10_unharmed 38 = .ok (.iinc 2 1, 3) := by decide +kernel
theorem dX10_unharmed_41 : decode cX10_unharmed 41 = .ok (.goto (-37), 3) := by decide +kernel
theorem dX10_unharmed_44 : decode cX10_unharmed 44 = .ok (.iload_n 1, 1) := by decide +kernel
theorem dX10_unharmed_45 : decode cX10_unharmed 45 = .ok (.ireturn, 1) := by decide +kernel
theorem dX10_all_0 : decode cX10_all 0 = .ok (.iload_n 1, 1) := by decide +kernel
theorem dX10_all_1 : decode cX10_all 1 = .ok (.i2l, 1) := by decide +kernel
theorem dX10_all_2 : decode cX10_all 2 = .ok (.lconst 0, 1) := by decide +kernel
theorem dX10_all_3 : decode cX10_all 3 = .ok (.ldc2_w 238, 3) := by decide +kernel
theorem dX10_all_6 : decode cX10_all 6 = .ok (.invokestatic 101, 3) := by decide +kernel
theorem dX10_all_9 : decode cX10_all 9 = .ok (.ifCond .ne 5, 3) := by decide +kernel
theorem dX10_all_12 : decode cX10_all 12 = .ok (.iconst (-1), 1) := by decide +kernel
theorem dX10_all_13 : decode cX10_all 13 = .ok (.ireturn, 1) := by decide +kernel
theorem dX10_all_14 : decode cX10_all 14 = .ok (.aload_n 0, 1) := by decide +kernel
theorem dX10_all_15 : decode cX10_all 15 = .ok (.aload_n 0, 1) := by decide +kernel
theorem dX10_all_16 : decode cX10_all 16 = .ok (.getfield 13, 3) := by decide +kernel
theorem dX10_all_19 : decode cX10_all 19 = .ok (.invokevirtual 235, 3) := by decide +kernel
theorem dX10_all_22 : decode cX10_all 22 = .ok (.istore_n 2, 1) := by decide +kernel
theorem dX10_all_23 : decode cX10_all 23 = .ok (.iconst 0, 1) := by decide +kernel
theorem dX10_all_24 : decode cX10_all 24 = .ok (.istore_n 3, 1) := by decide +kernel
theorem dX10_all_25 : decode cX10_all 25 = .ok (.iconst 0, 1) := by decide +kernel
theorem dX10_all_26 : decode cX10_all 26 = .ok (.istore 4, 2) := by decide +kernel
theorem dX10_all_28 : decode cX10_all 28 = .ok (.iconst 0, 1) := by decide +kernel
theorem dX10_all_29 : decode cX10_all 29 = .ok (.istore 5, 2) := by decide +kernel
theorem dX10_all_31 : decode cX10_all 31 = .ok (.iload 5, 2) := by decide +kernel
theorem dX10_all_33 : decode cX10_all 33 = .ok (.aload_n 0, 1) := by decide +kernel
theorem dX10_all_34 : decode cX10_all 34 = .ok (.getfield 29, 3) := by decide +kernel
theorem dX10_all_37 : decode cX10_all 37 = .ok (.if_icmp .ge 63, 3) := by decide +kernel
theorem dX10_all_40 : decode cX10_all 40 = .ok (.iload_n 3, 1) := by decide +kernel
theorem dX10_all_41 : decode cX10_all 41 = .ok (.aload_n 0, 1) := by decide +kernel
theorem dX10_all_42 : decode cX10_all 42 = .ok (.getfield 65, 3) := by decide +kernel
theorem dX10_all_45 : decode cX10_all 45 = .ok (.iload 5, 2) := by decide +kernel
theorem dX10_all_47 : decode cX10_all 47 = .ok (.iaload, 1) := by decide +kernel
theorem dX10_all_48 : decode cX10_all 48 = .ok (.ifCond .lt 7, 3) := by decide +kernel
theorem dX10_all_51 : decode cX10_all 51 = .ok (.iconst 1, 1) := by decide +kernel
theorem dX10_all_52 : decode cX10_all 52 = .ok (.goto 4, 3) := by decide +kernel
theorem dX10_all_55 : decode cX10_all 55 = .ok (.iconst 0, 1) := by decide +kernel
theorem dX10_all_56 : decode cX10_all 56 = .ok (.iadd, 1) := by decide +kernel
theorem dX10_all_57 : decode cX10_all 57 = .ok (.istore_n 3, 1) := by decide +kernel
theorem dX10_all_58 : decode cX10_all 58 = .ok (.aload_n 0, 1) := by decide +kernel
theorem dX10_all_59 : decode cX10_all 59 = .ok (.getfield 65, 3) := by decide +kernel
theorem dX10_all_62 : decode cX10_all 62 = .ok (.iload 5, 2) := by decide +kernel
theorem dX10_all_64 : decode cX10_all 64 = .ok (.iaload, 1) := by decide +kernel
theorem dX10_all_65 : decode cX10_all 65 = .ok (.ifCond .lt 25, 3) := by decide +kernel
theorem dX10_all_68 : decode cX10_all 68 = .ok (.aload_n 0, 1) := by decide +kernel
theorem dX10_all_69 : decode cX10_all 69 = .ok (.getfield 71, 3) := by decide +kernel
theorem dX10_all_72 : decode cX10_all 72 = .ok (.iload 5, 2) := by decide +kernel
theorem dX10_all_74 : decode cX10_all 74 = .ok (.iaload, 1) := by decide +kernel
theorem dX10_all_75 : decode cX10_all 75 = .ok (.iload 4, 2) := by decide +kernel
theorem dX10_all_77 : decode cX10_all 77 = .ok (.if_icmp .le 13, 3) := by decide +kernel
theorem dX10_all_80 : decode cX10_all 80 = .ok (.aload_n 0, 1) := by decide +kernel
theorem dX10_all_81 : decode cX10_all 81 = .ok (.getfield 71, 3) := by decide +kernel
theorem dX10_all_84 : decode cX10_all 84 = .ok (.iload 5, 2) := by decide +kernel
theorem dX10_all_86 : decode cX10_all 86 = .ok (.iaload, 1) := by decide +kernel
theorem dX10_all_87 : decode cX10_all 87 = .ok (.goto 5, 3) := by decide +kernel
theorem dX10_all_90 : decode cX10_all 90 = .ok (.iload 4, 2) := by decide +kernel
theorem dX10_all_92 : decode cX10_all 92 = .ok (.istore 4, 2) := by decide +kernel
theorem dX10_all_94 : decode cX10_all 94 = .ok (.iinc 5 1, 3) := by decide +kernel
theorem dX10_all_97 : decode cX10_all 97 = .ok (.goto (-66), 3) := by decide +kernel
theorem dX10_all_100 : decode cX10_all 100 = .ok (.iload_n 1, 1) := by decide +kernel
theorem dX10_all_101 : decode cX10_all 101 = .ok (.ifCond .ne 7, 3) := by decide +kernel
theorem dX10_all_104 : decode cX10_all 104 = .ok (.iload_n 2, 1) := by decide +kernel
theorem dX10_all_105 : decode cX10_all 105 = .ok (.goto 26, 3) := by decide +kernel
theorem dX10_all_108 : decode cX10_all 108 = .ok (.iload_n 1, 1) := by decide +kernel
theorem dX10_all_109 : decode cX10_all 109 = .ok (.iconst 1, 1) := by decide +kernel
theorem dX10_all_110 : decode cX10_all 110 = .ok (.if_icmp .ne 7, 3) := by decide +kernel
theorem dX10_all_113 : decode cX10_all 113 = .ok (.iload_n 3, 1) := by decide +kernel
theorem dX10_all_114 : decode cX10_all 114 = .ok (.goto 17, 3) := by decide +kernel
theorem dX10_all_117 : decode cX10_all 117 = .ok (.iload_n 1, 1) := by decide +kernel
theorem dX10_all_118 : decode cX10_all 118 = .ok (.iconst 2, 1) := by decide +kernel
theorem dX10_all_119 : decode cX10_all 119 = .ok (.if_icmp .ne 10, 3) := by decide +kernel
theorem dX10_all_122 : decode cX10_all 122 = .ok (.aload_n 0, 1) := by decide +kernel
theorem dX10_all_123 : decode cX10_all 123 = .ok (.invokevirtual 240, 3) := by decide +kernel
theorem dX10_all_126 : decode cX10_all 126 = .ok (.goto 5, 3) := by decide +kernel
theorem dX10_all_129 : decode cX10_all 129 = .ok (.iload 4, 2) := by decide +kernel
theorem dX10_all_131 : decode cX10_all 131 = .ok (.ireturn, 1) := by decide +kernel
theorem dX10_note_0 : decode cX10_note 0 = .ok (.aload_n 0, 1) := by decide +kernel
theorem dX10_note_1 : decode cX10_note 1 = .ok (.getfield 170, 3) := by decide +kernel
theorem dX10_note_4 : decode cX10_note 4 = .ok (.bipush 8, 2) := by decide +kernel
theorem dX10_note_6 : decode cX10_note 6 = .ok (.if_icmp .ne 43, 3) := by decide +kernel
theorem dX10_note_9 : decode cX10_note 9 = .ok (.iconst 0, 1) := by decide +kernel
theorem dX10_note_10 : decode cX10_note 10 = .ok (.istore_n 1, 1) := by decide +kernel
theorem dX10_note_11 : decode cX10_note 11 = .ok (.iload_n 1, 1) := by decide +kernel
theorem dX10_note_12 : decode cX10_note 12 = .ok (.sipush 147, 3) := by decide +kernel
theorem dX10_note_15 : decode cX10_note 15 = .ok (.if_icmp .ge 24, 3) := by decide +kernel
theorem dX10_note_18 : decode cX10_note 18 = .ok (.aload_n 0, 1) := by decide +kernel
theorem dX10_note_19 : decode cX10_note 19 = .ok (.getfield 80, 3) := by decide +kernel
theorem dX10_note_22 : decode cX10_note 22 = .ok (.iload_n 1, 1) := by decide +kernel
theorem dX10_note_23 : decode cX10_note 23 = .ok (.aload_n 0, 1) := by decide +kernel
theorem dX10_note_24 : decode cX10_note 24 = .ok (.getfield 80, 3) := by decide +kernel
theorem dX10_note_27 : decode cX10_note 27 = .ok (.iload_n 1, 1) := by decide +kernel
theorem dX10_note_28 : decode cX10_note 28 = .ok (.bipush 21, 2) := by decide +kernel
theorem dX10_note_30 : decode cX10_note 30 = .ok (.iadd, 1) := by decide +kernel
theorem dX10_note_31 : decode cX10_note 31 = .ok (.iaload, 1) := by decide +kernel
theorem dX10_note_32 : decode cX10_note 32 = .ok (.iastore, 1) := by decide +kernel
theorem dX10_note_33 : decode cX10_note 33 = .ok (.iinc 1 1, 3) := by decide +kernel
theorem dX10_note_36 : decode cX10_note 36 = .ok (.goto (-25), 3) := by decide +kernel
theorem dX10_note_39 : decode cX10_note 39 = .ok (.aload_n 0, 1) := by decide +kernel
theorem dX10_note_40 : decode cX10_note 40 = .ok (.dup, 1) := by decide +kernel
theorem dX10_note_41 : decode cX10_note 41 = .ok (.getfield 170, 3) := by decide +kernel
theorem dX10_note_44 : decode cX10_note 44 = .ok (.iconst 1, 1) := by decide +kernel
theorem dX10_note_45 : decode cX10_note 45 = .ok (.isub, 1) := by decide +kernel
theorem dX10_note_46 : decode cX10_note 46 = .ok (.putfield 170, 3) := by decide +kernel
theorem dX10_note_49 : decode cX10_note 49 = .ok (.iconst 0, 1) := by decide +kernel
theorem dX10_note_50 : decode cX10_note 50 = .ok (.istore_n 1, 1) := by decide +kernel
theorem dX10_note_51 : decode cX10_note 51 = .ok (.iload_n 1, 1) := by decide +kernel
theorem dX10_note_52 : decode cX10_note 52 = .ok (.bipush 21, 2) := by decide +kernel
theorem dX10_note_54 : decode cX10_note 54 = .ok (.if_icmp .ge 29, 3) := by decide +kernel
theorem dX10_note_57 : decode cX10_note 57 = .ok (.aload_n 0, 1) := by decide +kernel
theorem dX10_note_58 : decode cX10_note 58 = .ok (.getfield 80, 3) := by decide +kernel
theorem dX10_note_61 : decode cX10_note 61 = .ok (.bipush 21, 2) := by decide +kernel
theorem dX10_note_63 : decode cX10_note 63 = .ok (.aload_n 0, 1) := by decide +kernel
theorem dX10_note_64 : decode cX10_note 64 = .ok (.getfield 170, 3) := by decide +kernel
theorem dX10_note_67 : decode cX10_note 67 = .ok (.imul, 1) := by decide +kernel
theorem dX10_note_68 : decode cX10_note 68 = .ok (.iload_n 1, 1) := by decide +kernel
theorem dX10_note_69 : decode cX10_note 69 = .ok (.iadd, 1) := by decide +kernel
theorem dX10_note_70 : decode cX10_note 70 = .ok (.aload_n 0, 1) := by decide +kernel
theorem dX10_note_71 : decode cX10_note 71 = .ok (.getfield 38, 3) := by decide +kernel
theorem dX10_note_74 : decode cX10_note 74 = .ok (.iload_n 1, 1) := by decide +kernel
theorem dX10_note_75 : decode cX10_note 75 = .ok (.iaload, 1) := by decide +kernel
theorem dX10_note_76 : decode cX10_note 76 = .ok (.iastore, 1) := by decide +kernel
theorem dX10_note_77 : decode cX10_note 77 = .ok (.iinc 1 1, 3) := by decide +kernel
theorem dX10_note_80 : decode cX10_note 80 = .ok (.goto (-29), 3) := by decide +kernel
theorem dX10_note_83 : decode cX10_note 83 = .ok (.aload_n 0, 1) := by decide +kernel
theorem dX10_note_84 : decode cX10_note 84 = .ok (.dup, 1) := by decide +kernel
theorem dX10_note_85 : decode cX10_note 85 = .ok (.getfield 170, 3) := by decide +kernel
theorem dX10_note_88 : decode cX10_note 88 = .ok (.iconst 1, 1) := by decide +kernel
theorem dX10_note_89 : decode cX10_note 89 = .ok (.iadd, 1) := by decide +kernel
theorem dX10_note_90 : decode cX10_note 90 = .ok (.putfield 170, 3) := by decide +kernel
theorem dX10_note_93 : decode cX10_note 93 = .ok (.return_, 1) := by decide +kernel
theorem dX10_move_0 : decode cX10_move 0 = .ok (.aload_n 0, 1) := by decide +kernel
theorem dX10_move_1 : decode cX10_move 1 = .ok (.iload_n 1, 1) := by decide +kernel
theorem dX10_move_2 : decode cX10_move 2 = .ok (.invokevirtual 209, 3) := by decide +kernel
theorem dX10_move_5 : decode cX10_move 5 = .ok (.ifCond .eq 19, 3) := by decide +kernel
theorem dX10_move_8 : decode cX10_move 8 = .ok (.iload_n 2, 1) := by decide +kernel
theorem dX10_move_9 : decode cX10_move 9 = .ok (.i2l, 1) := by decide +kernel
theorem dX10_move_10 : decode cX10_move 10 = .ok (.lconst 0, 1) := by decide +kernel
theorem dX10_move_11 : decode cX10_move 11 = .ok (.aload_n 0, 1) := by decide +kernel
theorem dX10_move_12 : decode cX10_move 12 = .ok (.getfield 29, 3) := by decide +kernel
theorem dX10_move_15 : decode cX10_move 15 = .ok (.iconst 1, 1) := by decide +kernel
theorem dX10_move_16 : decode cX10_move 16 = .ok (.isub, 1) := by decide +kernel
theorem dX10_move_17 : decode cX10_move 17 = .ok (.i2l, 1) := by decide +kernel
theorem dX10_move_18 : decode cX10_move 18 = .ok (.invokestatic 101, 3) := by decide +kernel
theorem dX10_move_21 : decode cX10_move 21 = .ok (.ifCond .ne 5, 3) := by decide +kernel
theorem dX10_move_24 : decode cX10_move 24 = .ok (.iconst (-1), 1) := by decide +kernel
theorem dX10_move_25 : decode cX10_move 25 = .ok (.ireturn, 1) := by decide +kernel
theorem dX10_move_26 : decode cX10_move 26 = .ok (.aload_n 0, 1) := by decide +kernel
theorem dX10_move_27 : decode cX10_move 27 = .ok (.invokevirtual 243, 3) := by decide +kernel
theorem dX10_move_30 : decode cX10_move 30 = .ok (.aload_n 0, 1) := by decide +kernel
theorem dX10_move_31 : decode cX10_move 31 = .ok (.iload_n 1, 1) := by decide +kernel
theorem dX10_move_32 : decode cX10_move 32 = .ok (.invokevirtual 216, 3) := by decide +kernel
theorem dX10_move_35 : decode cX10_move 35 = .ok (.istore_n 3, 1) := by decide +kernel
theorem dX10_move_36 : decode cX10_move 36 = .ok (.iload_n 3, 1) := by decide +kernel
theorem dX10_move_37 : decode cX10_move 37 = .ok (.istore 4, 2) := by decide +kernel
theorem dX10_move_39 : decode cX10_move 39 = .ok (.iload 4, 2) := by decide +kernel
theorem dX10_move_41 : decode cX10_move 41 = .ok (.iload_n 2, 1) := by decide +kernel
theorem dX10_move_42 : decode cX10_move 42 = .ok (.if_icmp .ge 25, 3) := by decide +kernel
theorem dX10_move_45 : decode cX10_move 45 = .ok (.aload_n 0, 1) := by decide +kernel
theorem dX10_move_46 : decode cX10_move 46 = .ok (.getfield 38, 3) := by decide +kernel
theorem dX10_move_49 : decode cX10_move 49 = .ok (.iload 4, 2) := by decide +kernel
theorem dX10_move_51 : decode cX10_move 51 = .ok (.aload_n 0, 1) := by decide +kernel
theorem dX10_move_52 : decode cX10_move 52 = .ok (.getfield 38, 3) := by decide +kernel
theorem dX10_move_55 : decode cX10_move 55 = .ok (.iload 4, 2) := by decide +kernel
theorem dX10_move_57 : decode cX10_move 57 = .ok (.iconst 1, 1) := by decide +kernel
theorem dX10_move_58 : decode cX10_move 58 = .ok (.iadd, 1) := by decide +kernel
theorem dX10_move_59 : decode cX10_move 59 = .ok (.iaload, 1) := by decide +kernel
theorem dX10_move_60 : decode cX10_move 60 = .ok (.iastore, 1) := by decide +kernel
theorem dX10_move_61 : decode cX10_move 61 = .ok (.iinc 4 1, 3) := by decide +kernel
theorem dX10_move_64 : decode cX10_move 64 = .ok (.goto (-25), 3) := by decide +kernel
theorem dX10_move_67 : decode cX10_move 67 = .ok (.iload_n 3, 1) := by decide +kernel
theorem dX10_move_68 : decode cX10_move 68 = .ok (.istore 4, 2) := by decide +kernel
theorem dX10_move_70 : decode cX10_move 70 = .ok (.iload 4, 2) := by decide +kernel
theorem dX10_move_72 : decode cX10_move 72 = .ok (.iload_n 2, 1) := by decide +kernel
theorem dX10_move_73 : decode cX10_move 73 = .ok (.if_icmp .le 25, 3) := by decide +kernel
theorem dX10_move_76 : decode cX10_move 76 = .ok (.aload_n 0, 1) := by decide +kernel
theorem dX10_move_77 : decode cX10_move 77 = .ok (.getfield 38, 3) := by decide +kernel
theorem dX10_move_80 : decode cX10_move 80 = .ok (.iload 4, 2) := by decide +kernel
theorem dX10_move_82 : decode cX10_move 82 = .ok (.aload_n 0, 1) := by decide +kernel
theorem dX10_move_83 : decode cX10_move 83 = .ok (.getfield 38, 3) := by decide +kernel
theorem dX10_move_86 : decode cX10_move 86 = .ok (.iload 4, 2) := by decide +kernel
theorem dX10_move_88 : decode cX10_move 88 = .ok (.iconst 1, 1) := by decide +kernel
theorem dX10_move_89 : decode cX10_move 89 = .ok (.isub, 1) := by decide +kernel
theorem dX10_move_90 : decode cX10_move 90 = .ok (.iaload, 1) := by decide +kernel
theorem dX10_move_91 : decode cX10_move 91 = .ok (.iastore, 1) := by decide +kernel
theorem dX10_move_92 : decode cX10_move 92 = .ok (.iinc 4 (-1), 3) := by decide +kernel
theorem dX10_move_95 : decode cX10_move 95 = .ok (.goto (-25), 3) := by decide +kernel
theorem dX10_move_98 : decode cX10_move 98 = .ok (.aload_n 0, 1) := by decide +kernel
theorem dX10_move_99 : decode cX10_move 99 = .ok (.getfield 38, 3) := by decide +kernel
theorem dX10_move_102 : decode cX10_move 102 = .ok (.iload_n 2, 1) := by decide +kernel
theorem dX10_move_103 : decode cX10_move 103 = .ok (.iload_n 1, 1) := by decide +kernel
theorem dX10_move_104 : decode cX10_move 104 = .ok (.iastore, 1) := by decide +kernel
theorem dX10_move_105 : decode cX10_move 105 = .ok (.iload_n 3, 1) := by decide +kernel
theorem dX10_move_106 : decode cX10_move 106 = .ok (.ireturn, 1) := by decide +kernel
theorem dX10_wear_0 : decode cX10_wear 0 = .ok (.aload_n 0, 1) := by decide +kernel
theorem dX10_wear_1 : decode cX10_wear 1 = .ok (.iload_n 1, 1) := by decide +kernel
theorem dX10_wear_2 : decode cX10_wear 2 = .ok (.invokevirtual 209, 3) := by decide +kernel
theorem dX10_wear_5 : decode cX10_wear 5 = .ok (.ifCond .eq 17, 3) := by decide +kernel
theorem dX10_wear_8 : decode cX10_wear 8 = .ok (.iload_n 2, 1) := by decide +kernel
theorem dX10_wear_9 : decode cX10_wear 9 = .ok (.i2l, 1) := by decide +kernel
theorem dX10_wear_10 : decode cX10_wear 10 = .ok (.ldc2_w 246, 3) := by decide +kernel
theorem dX10_wear_13 : decode cX10_wear 13 = .ok (.ldc2_w 138, 3) := by decide +kernel
theorem dX10_wear_16 : decode cX10_wear 16 = .ok (.invokestatic 101, 3) := by decide +kernel
theorem dX10_wear_19 : decode cX10_wear 19 = .ok (.ifCond .ne 5, 3) := by decide +kernel
theorem dX10_wear_22 : decode cX10_wear 22 = .ok (.iconst (-1), 1) := by decide +kernel
theorem dX10_wear_23 : decode cX10_wear 23 = .ok (.ireturn, 1) := by decide +kernel
theorem dX10_wear_24 : decode cX10_wear 24 = .ok (.aload_n 0, 1) := by decide +kernel
theorem dX10_wear_25 : decode cX10_wear 25 = .ok (.invokevirtual 243, 3) := by decide +kernel
theorem dX10_wear_28 : decode cX10_wear 28 = .ok (.aload_n 0, 1) := by decide +kernel
theorem dX10_wear_29 : decode cX10_wear 29 = .ok (.getfield 38, 3) := by decide +kernel
theorem dX10_wear_32 : decode cX10_wear 32 = .ok (.bipush 7, 2) := by decide +kernel
theorem dX10_wear_34 : decode cX10_wear 34 = .ok (.iload_n 1, 1) := by decide +kernel
theorem dX10_wear_35 : decode cX10_wear 35 = .ok (.iadd, 1) := by decide +kernel
theorem dX10_wear_36 : decode cX10_wear 36 = .ok (.iaload, 1) := by decide +kernel
theorem dX10_wear_37 : decode cX10_wear 37 = .ok (.istore_n 3, 1) := by decide +kernel
theorem dX10_wear_38 : decode cX10_wear 38 = .ok (.aload_n 0, 1) := by decide +kernel
theorem dX10_wear_39 : decode cX10_wear 39 = .ok (.getfield 38, 3) := by decide +kernel
theorem dX10_wear_42 : decode cX10_wear 42 = .ok (.bipush 7, 2) := by decide +kernel
theorem dX10_wear_44 : decode cX10_wear 44 = .ok (.iload_n 1, 1) := by decide +kernel
theorem dX10_wear_45 : decode cX10_wear 45 = .ok (.iadd, 1) := by decide +kernel
theorem dX10_wear_46 : decode cX10_wear 46 = .ok (.iload_n 2, 1) := by decide +kernel
theorem dX10_wear_47 : decode cX10_wear 47 = .ok (.iastore, 1) := by decide +kernel
theorem dX10_wear_48 : decode cX10_wear 48 = .ok (.iload_n 3, 1) := by decide +kernel
theorem dX10_wear_49 : decode cX10_wear 49 = .ok (.bipush 100, 2) := by decide +kernel
theorem dX10_wear_51 : decode cX10_wear 51 = .ok (.iadd, 1) := by decide +kernel
theorem dX10_wear_52 : decode cX10_wear 52 = .ok (.ireturn, 1) := by decide +kernel
theorem dX10_come_0 : decode cX10_come 0 = .ok (.aload_n 0, 1) := by decide +kernel
theorem dX10_come_1 : decode cX10_come 1 = .ok (.iload_n 1, 1) := by decide +kernel
theorem dX10_come_2 : decode cX10_come 2 = .ok (.invokevirtual 209, 3) := by decide +kernel
theorem dX10_come_5 : decode cX10_come 5 = .ok (.ifCond .eq 15, 3) := by decide +kernel
theorem dX10_come_8 : decode cX10_come 8 = .ok (.iload_n 2, 1) := by decide +kernel
theorem dX10_come_9 : decode cX10_come 9 = .ok (.i2l, 1) := by decide +kernel
theorem dX10_come_10 : decode cX10_come 10 = .ok (.lconst 0, 1) := by decide +kernel
theorem dX10_come_11 : decode cX10_come 11 = .ok (.ldc2_w 138, 3) := by decide +kernel
theorem dX10_come_14 : decode cX10_come 14 = .ok (.invokestatic 101, 3) := by decide +kernel
theorem dX10_come_17 : decode cX10_come 17 = .ok (.ifCond .ne 5, 3) := by decide +kernel
theorem dX10_come_20 : decode cX10_come 20 = .ok (.iconst (-1), 1) := by decide +kernel
theorem dX10_come_21 : decode cX10_come 21 = .ok (.ireturn, 1) := by decide +kernel
theorem dX10_come_22 : decode cX10_come 22 = .ok (.aload_n 0, 1) := by decide +kernel
theorem dX10_come_23 : decode cX10_come 23 = .ok (.invokevirtual 243, 3) := by decide +kernel
theorem dX10_come_26 : decode cX10_come 26 = .ok (.aload_n 0, 1) := by decide +kernel
theorem dX10_come_27 : decode cX10_come 27 = .ok (.getfield 38, 3) := by decide +kernel
theorem dX10_come_30 : decode cX10_come 30 = .ok (.bipush 14, 2) := by decide +kernel
theorem dX10_come_32 : decode cX10_come 32 = .ok (.iload_n 1, 1) := by decide +kernel
theorem dX10_come_33 : decode cX10_come 33 = .ok (.iadd, 1) := by decide +kernel
theorem dX10_come_34 : decode cX10_come 34 = .ok (.iaload, 1) := by decide +kernel
theorem dX10_come_35 : decode cX10_come 35 = .ok (.istore_n 3, 1) := by decide +kernel
theorem dX10_come_36 : decode cX10_come 36 = .ok (.aload_n 0, 1) := by decide +kernel
theorem dX10_come_37 : decode cX10_come 37 = .ok (.getfield 38, 3) := by decide +kernel
theorem dX10_come_40 : decode cX10_come 40 = .ok (.bipush 14, 2) := by decide +kernel
theorem dX10_come_42 : decode cX10_come 42 = .ok (.iload_n 1, 1) := by decide +kernel
theorem dX10_come_43 : decode cX10_come 43 = .ok (.iadd, 1) := by decide +kernel
theorem dX10_come_44 : decode cX10_come 44 = .ok (.iload_n 2, 1) := by decide +kernel
theorem dX10_come_45 : decode cX10_come 45 = .ok (.iastore, 1) := by decide +kernel
theorem dX10_come_46 : decode cX10_come 46 = .ok (.iload_n 3, 1) := by decide +kernel
theorem dX10_come_47 : decode cX10_come 47 = .ok (.ireturn, 1) := by decide +kernel
theorem dX10_undo_0 : decode cX10_undo 0 = .ok (.aload_n 0, 1) := by decide +kernel
theorem dX10_undo_1 : decode cX10_undo 1 = .ok (.getfield 170, 3) := by decide +kernel
theorem dX10_undo_4 : decode cX10_undo 4 = .ok (.ifCond .ne 6, 3) := by decide +kernel
theorem dX10_undo_7 : decode cX10_undo 7 = .ok (.bipush (-2), 2) := by decide +kernel
theorem dX10_undo_9 : decode cX10_undo 9 = .ok (.ireturn, 1) := by decide +kernel
theorem dX10_undo_10 : decode cX10_undo 10 = .ok (.aload_n 0, 1) := by decide +kernel
theorem dX10_undo_11 : decode cX10_undo 11 = .ok (.dup, 1) := by decide +kernel
theorem dX10_undo_12 : decode cX10_undo 12 = .ok (.getfield 170, 3) := by decide +kernel
theorem dX10_undo_15 : decode cX10_undo 15 = .ok (.iconst 1, 1) := by decide +kernel
theorem dX10_undo_16 : decode cX10_undo 16 = .ok (.isub, 1) := by decide +kernel
theorem dX10_undo_17 : decode cX10_undo 17 = .ok (.putfield 170, 3) := by decide +kernel
theorem dX10_undo_20 : decode cX10_undo 20 = .ok (.iconst 0, 1) := by decide +kernel
theorem dX10_undo_21 : decode cX10_undo 21 = .ok (.istore_n 1, 1) := by decide +kernel
theorem dX10_undo_22 : decode cX10_undo 22 = .ok (.iload_n 1, 1) := by decide +kernel
theorem dX10_undo_23 : decode cX10_undo 23 = .ok (.bipush 21, 2) := by decide +kernel
theorem dX10_undo_25 : decode cX10_undo 25 = .ok (.if_icmp .ge 29, 3) := by decide +kernel
theorem dX10_undo_28 : decode cX10_undo 28 = .ok (.aload_n 0, 1) := by decide +kernel
theorem dX10_undo_29 : decode cX10_undo 29 = .ok (.getfield 38, 3) := by decide +kernel
theorem dX10_undo_32 : decode cX10_undo 32 = .ok (.iload_n 1, 1) := by decide +kernel
theorem dX10_undo_33 : decode cX10_undo 33 = .ok (.aload_n 0, 1) := by decide +kernel
theorem dX10_undo_34 : decode cX10_undo 34 = .ok (.getfield 80, 3) := by decide +kernel
theorem dX10_undo_37 : decode cX10_undo 37 = .ok (.bipush 21, 2) := by decide +kernel
theorem dX10_undo_39 : decode cX10_undo 39 = .ok (.aload_n 0, 1) := by decide +kernel
theorem dX10_undo_40 : decode cX10_undo 40 = .ok (.getfield 170, 3) := by decide +kernel
theorem dX10_undo_43 : decode cX10_undo 43 = .ok (.imul, 1) := by decide +kernel
theorem dX10_undo_44 : decode cX10_undo 44 = .ok (.iload_n 1, 1) := by decide +kernel
theorem dX10_undo_45 : decode cX10_undo 45 = .ok (.iadd, 1) := by decide +kernel
theorem dX10_undo_46 : decode cX10_undo 46 = .ok (.iaload, 1) := by decide +kernel
theorem dX10_undo_47 : decode cX10_undo 47 = .ok (.iastore, 1) := by decide +kernel
theorem dX10_undo_48 : decode cX10_undo 48 = .ok (.iinc 1 1, 3) := by decide +kernel
theorem dX10_undo_51 : decode cX10_undo 51 = .ok (.goto (-29), 3) := by decide +kernel
theorem dX10_undo_54 : decode cX10_undo 54 = .ok (.aload_n 0, 1) := by decide +kernel
theorem dX10_undo_55 : decode cX10_undo 55 = .ok (.getfield 170, 3) := by decide +kernel
theorem dX10_undo_58 : decode cX10_undo 58 = .ok (.ireturn, 1) := by decide +kernel
theorem dX10_nextRow_0 : decode cX10_nextRow 0 = .ok (.aload_n 0, 1) := by decide +kernel
theorem dX10_nextRow_1 : decode cX10_nextRow 1 = .ok (.getfield 29, 3) := by decide +kernel
theorem dX10_nextRow_4 : decode cX10_nextRow 4 = .ok (.iconst 2, 1) := by decide +kernel
theorem dX10_nextRow_5 : decode cX10_nextRow 5 = .ok (.isub, 1) := by decide +kernel
theorem dX10_nextRow_6 : decode cX10_nextRow 6 = .ok (.istore_n 1, 1) := by decide +kernel
theorem dX10_nextRow_7 : decode cX10_nextRow 7 = .ok (.iload_n 1, 1) := by decide +kernel
theorem dX10_nextRow_8 : decode cX10_nextRow 8 = .ok (.ifCond .lt 26, 3) := by decide +kernel
theorem dX10_nextRow_11 : decode cX10_nextRow 11 = .ok (.aload_n 0, 1) := by decide +kernel
theorem dX10_nextRow_12 : decode cX10_nextRow 12 = .ok (.getfield 38, 3) := by decide +kernel
theorem dX10_nextRow_15 : decode cX10_nextRow 15 = .ok (.iload_n 1, 1) := by decide +kernel
theorem dX10_nextRow_16 : decode cX10_nextRow 16 = .ok (.iaload, 1) := by decide +kernel
theorem dX10_nextRow_17 : decode cX10_nextRow 17 = .ok (.aload_n 0, 1) := by decide +kernel
theorem dX10_nextRow_18 : decode cX10_nextRow 18 = .ok (.getfield 38, 3) := by decide +kernel
theorem dX10_nextRow_21 : decode cX10_nextRow 21 = .ok (.iload_n 1, 1) := by decide +kernel
theorem dX10_nextRow_22 : decode cX10_nextRow 22 = .ok (.iconst 1, 1) := by decide +kernel
theorem dX10_nextRow_23 : decode cX10_nextRow 23 = .ok (.iadd, 1) := by decide +kernel
theorem dX10_nextRow_24 : decode cX10_nextRow 24 = .ok (.iaload, 1) := by decide +kernel
theorem dX10_nextRow_25 : decode cX10_nextRow 25 = .ok (.if_icmp .le 9, 3) := by decide +kernel
theorem dX10_nextRow_28 : decode cX10_nextRow 28 = .ok (.iinc 1 (-1), 3) := by decide +kernel
theorem dX10_nextRow_31 : decode cX10_nextRow 31 = .ok (.goto (-24), 3) := by decide +kernel
theorem dX10_nextRow_34 : decode cX10_nextRow 34 = .ok (.iload_n 1, 1) := by decide +kernel
theorem dX10_nextRow_35 : decode cX10_nextRow 35 = .ok (.ifCond .ge 5, 3) := by decide +kernel
theorem dX10_nextRow_38 : decode cX10_nextRow 38 = .ok (.iconst 0, 1) := by decide +kernel
theorem dX10_nextRow_39 : decode cX10_nextRow 39 = .ok (.ireturn, 1) := by decide +kernel
theorem dX10_nextRow_40 : decode cX10_nextRow 40 = .ok (.aload_n 0, 1) := by decide +kernel
theorem dX10_nextRow_41 : decode cX10_nextRow 41 = .ok (.getfield 29, 3) := by decide +kernel
theorem dX10_nextRow_44 : decode cX10_nextRow 44 = .ok (.iconst 1, 1) := by decide +kernel
theorem dX10_nextRow_45 : decode cX10_nextRow 45 = .ok (.isub, 1) := by decide +kernel
theorem dX10_nextRow_46 : decode cX10_nextRow 46 = .ok (.istore_n 2, 1) := by decide +kernel
theorem dX10_nextRow_47 : decode cX10_nextRow 47 = .ok (.aload_n 0, 1) := by decide +kernel
theorem dX10_nextRow_48 : decode cX10_nextRow 48 = .ok (.getfield 38, 3) := by decide +kernel
theorem dX10_nextRow_51 : decode cX10_nextRow 51 = .ok (.iload_n 2, 1) := by decide +kernel
theorem dX10_nextRow_52 : decode cX10_nextRow 52 = .ok (.iaload, 1) := by decide +kernel
theorem dX10_nextRow_53 : decode cX10_nextRow 53 = .ok (.aload_n 0, 1) := by decide +kernel
theorem dX10_nextRow_54 : decode cX10_nextRow 54 = .ok (.getfield 38, 3) := by decide +kernel
theorem dX10_nextRow_57 : decode cX10_nextRow 57 = .ok (.iload_n 1, 1) := by decide +kernel
theorem dX10_nextRow_58 : decode cX10_nextRow 58 = .ok (.iaload, 1) := by decide +kernel
theorem dX10_nextRow_59 : decode cX10_nextRow 59 = .ok (.if_icmp .ge 9, 3) := by decide +kernel
theorem dX10_nextRow_62 : decode cX10_nextRow 62 = .ok (.iinc 2 (-1), 3) := by decide +kernel
theorem dX10_nextRow_65 : decode cX10_nextRow 65 = .ok (.goto (-18), 3) := by decide +kernel
theorem dX10_nextRow_68 : decode cX10_nextRow 68 = .ok (.aload_n 0, 1) := by decide +kernel
theorem dX10_nextRow_69 : decode cX10_nextRow 69 = .ok (.iload_n 1, 1) := by decide +kernel
theorem dX10_nextRow_70 : decode cX10_nextRow 70 = .ok (.iload_n 2, 1) := by decide +kernel
theorem dX10_nextRow_71 : decode cX10_nextRow 71 = .ok (.invokevirtual 248, 3) := by decide +kernel
theorem dX10_nextRow_74 : decode cX10_nextRow 74 = .ok (.aload_n 0, 1) := by decide +kernel
theorem dX10_nextRow_75 : decode cX10_nextRow 75 = .ok (.getfield 29, 3) := by decide +kernel
theorem dX10_nextRow_78 : decode cX10_nextRow 78 = .ok (.iconst 1, 1) := by decide +kernel
theorem dX10_nextRow_79 : decode cX10_nextRow 79 = .ok (.isub, 1) := by decide +kernel
theorem dX10_nextRow_80 : decode cX10_nextRow 80 = .ok (.istore_n 3, 1) := by decide +kernel
theorem dX10_nextRow_81 : decode cX10_nextRow 81 = .ok (.iload_n 1, 1) := by decide +kernel
theorem dX10_nextRow_82 : decode cX10_nextRow 82 = .ok (.iconst 1, 1) := by decide +kernel
theorem dX10_nextRow_83 : decode cX10_nextRow 83 = .ok (.iadd, 1) := by decide +kernel
theorem dX10_nextRow_84 : decode cX10_nextRow 84 = .ok (.istore 4, 2) := by decide +kernel
theorem dX10_nextRow_86 : decode cX10_nextRow 86 = .ok (.iload 4, 2) := by decide +kernel
theorem dX10_nextRow_88 : decode cX10_nextRow 88 = .ok (.iload_n 3, 1) := by decide +kernel
theorem dX10_nextRow_89 : decode cX10_nextRow 89 = .ok (.if_icmp .ge 19, 3) := by decide +kernel
theorem dX10_nextRow_92 : decode cX10_nextRow 92 = .ok (.aload_n 0, 1) := by decide +kernel
theorem dX10_nextRow_93 : decode cX10_nextRow 93 = .ok (.iload 4, 2) := by decide +kernel
theorem dX10_nextRow_95 : decode cX10_nextRow 95 = .ok (.iload_n 3, 1) := by decide +kernel
theorem dX10_nextRow_96 : decode cX10_nextRow 96 = .ok (.invokevirtual 248, 3) := by decide +kernel
theorem dX10_nextRow_99 : decode cX10_nextRow 99 = .ok (.iinc 3 (-1), 3) := by decide +kernel
theorem dX10_nextRow_102 : decode cX10_nextRow 102 = .ok (.iinc 4 1, 3) := by decide +kernel
theorem dX10_nextRow_105 : decode cX10_nextRow 105 = .ok (.goto (-19), 3) := by decide +kernel
theorem dX10_nextRow_108 : decode cX10_nextRow 108 = .ok (.iconst 1, 1) := by decide +kernel
theorem dX10_nextRow_109 : decode cX10_nextRow 109 = .ok (.ireturn, 1) := by decide +kernel
theorem dX10_exchange_0 : decode cX10_exchange 0 = .ok (.aload_n 0, 1) := by decide +kernel
theorem dX10_exchange_1 : decode cX10_exchange 1 = .ok (.getfield 38, 3) := by decide +kernel
theorem dX10_exchange_4 : decode cX10_exchange 4 = .ok (.iload_n 1, 1) := by decide +kernel
theorem dX10_exchange_5 : decode cX10_exchange 5 = .ok (.iaload, 1) := by decide +kernel
theorem dX10_exchange_6 : decode cX10_exchange 6 = .ok (.istore_n 3, 1) := by decide +kernel
theorem dX10_exchange_7 : decode cX10_exchange 7 = .ok (.aload_n 0, 1) := by decide +kernel
theorem dX10_exchange_8 : decode cX10_exchange 8 = .ok (.getfield 38, 3) := by decide +kernel
theorem dX10_exchange_11 : decode cX10_exchange 11 = .ok (.iload_n 1, 1) := by decide +kernel
theorem dX10_exchange_12 : decode cX10_exchange 12 = .ok (.aload_n 0, 1) := by decide +kernel
theorem dX10_exchange_13 : decode cX10_exchange 13 = .ok (.getfield 38, 3) := by decide +kernel
theorem dX10_exchange_16 : decode cX10_exchange 16 = .ok (.iload_n 2, 1) := by decide +kernel
theorem dX10_exchange_17 : decode cX10_exchange 17 = .ok (.iaload, 1) := by decide +kernel
theorem dX10_exchange_18 : decode cX10_exchange 18 = .ok (.iastore, 1) := by decide +kernel
theorem dX10_exchange_19 : decode cX10_exchange 19 = .ok (.aload_n 0, 1) := by decide +kernel
theorem dX10_exchange_20 : decode cX10_exchange 20 = .ok (.getfield 38, 3) := by decide +kernel
theorem dX10_exchange_23 : decode cX10_exchange 23 = .ok (.iload_n 2, 1) := by decide +kernel
theorem dX10_exchange_24 : decode cX10_exchange 24 = .ok (.iload_n 3, 1) := by decide +kernel
theorem dX10_exchange_25 : decode cX10_exchange 25 = .ok (.iastore, 1) := by decide +kernel
theorem dX10_exchange_26 : decode cX10_exchange 26 = .ok (.return_, 1) := by decide +kernel
theorem dX10_order_0 : decode cX10_order 0 = .ok (.iload_n 1, 1) := by decide +kernel
theorem dX10_order_1 : decode cX10_order 1 = .ok (.i2l, 1) := by decide +kernel
theorem dX10_order_2 : decode cX10_order 2 = .ok (.ldc2_w 251, 3) := by decide +kernel
theorem dX10_order_5 : decode cX10_order 5 = .ok (.aload_n 0, 1) := by decide +kernel
theorem dX10_order_6 : decode cX10_order 6 = .ok (.getfield 29, 3) := by decide +kernel
theorem dX10_order_9 : decode cX10_order 9 = .ok (.iconst 1, 1) := by decide +kernel
theorem dX10_order_10 : decode cX10_order 10 = .ok (.isub, 1) := by decide +kernel
theorem dX10_order_11 : decode cX10_order 11 = .ok (.i2l, 1) := by decide +kernel
theorem dX10_order_12 : decode cX10_order 12 = .ok (.invokestatic 101, 3) := by decide +kernel
theorem dX10_order_15 : decode cX10_order 15 = .ok (.ifCond .ne 5, 3) := by decide +kernel
theorem dX10_order_18 : decode cX10_order 18 = .ok (.iconst (-1), 1) := by decide +kernel
theorem dX10_order_19 : decode cX10_order 19 = .ok (.ireturn, 1) := by decide +kernel
theorem dX10_order_20 : decode cX10_order 20 = .ok (.iconst 0, 1) := by decide +kernel
theorem dX10_order_21 : decode cX10_order 21 = .ok (.istore_n 2, 1) := by decide +kernel
theorem dX10_order_22 : decode cX10_order 22 = .ok (.iload_n 2, 1) := by decide +kernel
theorem dX10_order_23 : decode cX10_order 23 = .ok (.bipush 7, 2) := by decide +kernel
theorem dX10_order_25 : decode cX10_order 25 = .ok (.if_icmp .ge 28, 3) := by decide +kernel
theorem dX10_order_28 : decode cX10_order 28 = .ok (.aload_n 0, 1) := by decide +kernel
theorem dX10_order_29 : decode cX10_order 29 = .ok (.getfield 83, 3) := by decide +kernel
theorem dX10_order_32 : decode cX10_order 32 = .ok (.iload_n 2, 1) := by decide +kernel
theorem dX10_order_33 : decode cX10_order 33 = .ok (.aload_n 0, 1) := by decide +kernel
theorem dX10_order_34 : decode cX10_order 34 = .ok (.getfield 38, 3) := by decide +kernel
theorem dX10_order_37 : decode cX10_order 37 = .ok (.iload_n 2, 1) := by decide +kernel
theorem dX10_order_38 : decode cX10_order 38 = .ok (.iaload, 1) := by decide +kernel
theorem dX10_order_39 : decode cX10_order 39 = .ok (.iastore, 1) := by decide +kernel
theorem dX10_order_40 : decode cX10_order 40 = .ok (.aload_n 0, 1) := by decide +kernel
theorem dX10_order_41 : decode cX10_order 41 = .ok (.getfield 38, 3) := by decide +kernel
theorem dX10_order_44 : decode cX10_order 44 = .ok (.iload_n 2, 1) := by decide +kernel
theorem dX10_order_45 : decode cX10_order 45 = .ok (.iload_n 2, 1) := by decide +kernel
theorem dX10_order_46 : decode cX10_order 46 = .ok (.iastore, 1) := by decide +kernel
theorem dX10_order_47 : decode cX10_order 47 = .ok (.iinc 2 1, 3) := by decide +kernel
theorem dX10_order_50 : decode cX10_order 50 = .ok (.goto (-28), 3) := by decide +kernel
theorem dX10_order_53 : decode cX10_order 53 = .ok (.iconst (-1), 1) := by decide +kernel
theorem dX10_order_54 : decode cX10_order 54 = .ok (.istore_n 2, 1) := by decide +kernel
theorem dX10_order_55 : decode cX10_order 55 = .ok (.iconst 1, 1) := by decide +kernel
theorem dX10_order_56 : decode cX10_order 56 = .ok (.istore_n 3, 1) := by decide +kernel
theorem dX10_order_57 : decode cX10_order 57 = .ok (.iload_n 3, 1) := by decide +kernel
theorem dX10_order_58 : decode cX10_order 58 = .ok (.ifCond .eq 87, 3) := by decide +kernel
theorem dX10_order_61 : decode cX10_order 61 = .ok (.aload_n 0, 1) := by decide +kernel
theorem dX10_order_62 : decode cX10_order 62 = .ok (.aload_n 0, 1) := by decide +kernel
theorem dX10_order_63 : decode cX10_order 63 = .ok (.getfield 13, 3) := by decide +kernel
theorem dX10_order_66 : decode cX10_order 66 = .ok (.invokevirtual 235, 3) := by decide +kernel
theorem dX10_order_69 : decode cX10_order 69 = .ok (.istore 4, 2) := by decide +kernel
theorem dX10_order_71 : decode cX10_order 71 = .ok (.iload_n 2, 1) := by decide +kernel
theorem dX10_order_72 : decode cX10_order 72 = .ok (.ifCond .lt 9, 3) := by decide +kernel
theorem dX10_order_75 : decode cX10_order 75 = .ok (.iload 4, 2) := by decide +kernel
theorem dX10_order_77 : decode cX10_order 77 = .ok (.iload_n 2, 1) := by decide +kernel
theorem dX10_order_78 : decode cX10_order 78 = .ok (.if_icmp .ge 7, 3) := by decide +kernel
theorem dX10_order_81 : decode cX10_order 81 = .ok (.iconst 1, 1) := by decide +kernel
theorem dX10_order_82 : decode cX10_order 82 = .ok (.goto 4, 3) := by decide +kernel
theorem dX10_order_85 : decode cX10_order 85 = .ok (.iconst 0, 1) := by decide +kernel
theorem dX10_order_86 : decode cX10_order 86 = .ok (.istore 5, 2) := by decide +kernel
theorem dX10_order_88 : decode cX10_order 88 = .ok (.iload 5, 2) := by decide +kernel
theorem dX10_order_90 : decode cX10_order 90 = .ok (.ifCond .eq 8, 3) := by decide +kernel
theorem dX10_order_93 : decode cX10_order 93 = .ok (.iload 4, 2) := by decide +kernel
theorem dX10_order_95 : decode cX10_order 95 = .ok (.goto 4, 3) := by decide +kernel
theorem dX10_order_98 : decode cX10_order 98 = .ok (.iload_n 2, 1) := by decide +kernel
theorem dX10_order_99 : decode cX10_order 99 = .ok (.istore_n 2, 1) := by decide +kernel
theorem dX10_order_100 : decode cX10_order 100 = .ok (.iconst 0, 1) := by decide +kernel
theorem dX10_order_101 : decode cX10_order 101 = .ok (.istore 6, 2) := by decide +kernel
theorem dX10_order_103 : decode cX10_order 103 = .ok (.iload 6, 2) := by decide +kernel
theorem dX10_order_105 : decode cX10_order 105 = .ok (.aload_n 0, 1) := by decide +kernel
theorem dX10_order_106 : decode cX10_order 106 = .ok (.getfield 29, 3) := by decide +kernel
theorem dX10_order_109 : decode cX10_order 109 = .ok (.if_icmp .ge 28, 3) := by decide +kernel
theorem dX10_order_112 : decode cX10_order 112 = .ok (.iload 5, 2) := by decide +kernel
theorem dX10_order_114 : decode cX10_order 114 = .ok (.ifCond .eq 23, 3) := by decide +kernel
theorem dX10_order_117 : decode cX10_order 117 = .ok (.aload_n 0, 1) := by decide +kernel
theorem dX10_order_118 : decode cX10_order 118 = .ok (.getfield 86, 3) := by decide +kernel
theorem dX10_order_121 : decode cX10_order 121 = .ok (.iload 6, 2) := by decide +kernel
theorem dX10_order_123 : decode cX10_order 123 = .ok (.aload_n 0, 1) := by decide +kernel
theorem dX10_order_124 : decode cX10_order 124 = .ok (.getfield 38, 3) := by decide +kernel
theorem dX10_order_127 : decode cX10_order 127 = .ok (.iload 6, 2) := by decide +kernel
theorem dX10_order_129 : decode cX10_order 129 = .ok (.iaload, 1) := by decide +kernel
theorem dX10_order_130 : decode cX10_order 130 = .ok (.iastore, 1) := by decide +kernel
theorem dX10_order_131 : decode cX10_order 131 = .ok (.iinc 6 1, 3) := by decide +kernel
theorem dX10_order_134 : decode cX10_order 134 = .ok (.goto (-31), 3) := by decide +kernel
theorem dX10_order_137 : decode cX10_order 137 = .ok (.aload_n 0, 1) := by decide +kernel
theorem dX10_order_138 : decode cX10_order 138 = .ok (.invokevirtual 253, 3) := by decide +kernel
theorem dX10_order_141 : decode cX10_order 141 = .ok (.istore_n 3, 1) := by decide +kernel
theorem dX10_order_142 : decode cX10_order 142 = .ok (.goto (-85), 3) := by decide +kernel
theorem dX10_order_145 : decode cX10_order 145 = .ok (.iconst 0, 1) := by decide +kernel
theorem dX10_order_146 : decode cX10_order 146 = .ok (.istore 4, 2) := by decide +kernel
theorem dX10_order_148 : decode cX10_order 148 = .ok (.iload 4, 2) := by decide +kernel
theorem dX10_order_150 : decode cX10_order 150 = .ok (.bipush 7, 2) := by decide +kernel
theorem dX10_order_152 : decode cX10_order 152 = .ok (.if_icmp .ge 23, 3) := by decide +kernel
theorem dX10_order_155 : decode cX10_order 155 = .ok (.aload_n 0, 1) := by decide +kernel
theorem dX10_order_156 : decode cX10_order 156 = .ok (.getfield 38, 3) := by decide +kernel
theorem dX10_order_159 : decode cX10_order 159 = .ok (.iload 4, 2) := by decide +kernel
theorem dX10_order_161 : decode cX10_order 161 = .ok (.aload_n 0, 1) := by decide +kernel
theorem dX10_order_162 : decode cX10_order 162 = .ok (.getfield 83, 3) := by decide +kernel
theorem dX10_order_165 : decode cX10_order 165 = .ok (.iload 4, 2) := by decide +kernel
theorem dX10_order_167 : decode cX10_order 167 = .ok (.iaload, 1) := by decide +kernel
theorem dX10_order_168 : decode cX10_order 168 = .ok (.iastore, 1) := by decide +kernel
theorem dX10_order_169 : decode cX10_order 169 = .ok (.iinc 4 1, 3) := by decide +kernel
theorem dX10_order_172 : decode cX10_order 172 = .ok (.goto (-24), 3) := by decide +kernel
theorem dX10_order_175 : decode cX10_order 175 = .ok (.iload_n 1, 1) := by decide +kernel
theorem dX10_order_176 : decode cX10_order 176 = .ok (.ifCond .ge 7, 3) := by decide +kernel
theorem dX10_order_179 : decode cX10_order 179 = .ok (.iload_n 2, 1) := by decide +kernel
theorem dX10_order_180 : decode cX10_order 180 = .ok (.goto 9, 3) := by decide +kernel
theorem dX10_order_183 : decode cX10_order 183 = .ok (.aload_n 0, 1) := by decide +kernel
theorem dX10_order_184 : decode cX10_order 184 = .ok (.getfield 86, 3) := by decide +kernel
theorem dX10_order_187 : decode cX10_order 187 = .ok (.iload_n 1, 1) := by decide +kernel
theorem dX10_order_188 : decode cX10_order 188 = .ok (.iaload, 1) := by decide +kernel
theorem dX10_order_189 : decode cX10_order 189 = .ok (.ireturn, 1) := by decide +kernel
theorem dX10_cushion_0 : decode cX10_cushion 0 = .ok (.iload_n 1, 1) := by decide +kernel
theorem dX10_cushion_1 : decode cX10_cushion 1 = .ok (.i2l, 1) := by decide +kernel
theorem dX10_cushion_2 : decode cX10_cushion 2 = .ok (.lconst 0, 1) := by decide +kernel
theorem dX10_cushion_3 : decode cX10_cushion 3 = .ok (.ldc2_w 148, 3) := by decide +kernel
theorem dX10_cushion_6 : decode cX10_cushion 6 = .ok (.invokestatic 101, 3) := by decide +kernel
theorem dX10_cushion_9 : decode cX10_cushion 9 = .ok (.ifCond .ne 5, 3) := by decide +kernel
theorem dX10_cushion_12 : decode cX10_cushion 12 = .ok (.iconst (-1), 1) := by decide +kernel
theorem dX10_cushion_13 : decode cX10_cushion 13 = .ok (.ireturn, 1) := by decide +kernel
theorem dX10_cushion_14 : decode cX10_cushion 14 = .ok (.iconst 0, 1) := by decide +kernel
theorem dX10_cushion_15 : decode cX10_cushion 15 = .ok (.istore_n 2, 1) := by decide +kernel
theorem dX10_cushion_16 : decode cX10_cushion 16 = .ok (.iconst (-1), 1) := by decide +kernel
theorem dX10_cushion_17 : decode cX10_cushion 17 = .ok (.istore_n 3, 1) := by decide +kernel
theorem dX10_cushion_18 : decode cX10_cushion 18 = .ok (.iconst 0, 1) := by decide +kernel
theorem dX10_cushion_19 : decode cX10_cushion 19 = .ok (.istore 4, 2) := by decide +kernel
theorem dX10_cushion_21 : decode cX10_cushion 21 = .ok (.iload 4, 2) := by decide +kernel
theorem dX10_cushion_23 : decode cX10_cushion 23 = .ok (.bipush 19, 2) := by decide +kernel
theorem dX10_cushion_25 : decode cX10_cushion 25 = .ok (.aload_n 0, 1) := by decide +kernel
theorem dX10_cushion_26 : decode cX10_cushion 26 = .ok (.getfield 29, 3) := by decide +kernel
theorem dX10_cushion_29 : decode cX10_cushion 29 = .ok (.imul, 1) := by decide +kernel
theorem dX10_cushion_30 : decode cX10_cushion 30 = .ok (.if_icmp .ge 100, 3) := by decide +kernel
theorem dX10_cushion_33 : decode cX10_cushion 33 = .ok (.aload_n 0, 1) := by decide +kernel
theorem dX10_cushion_34 : decode cX10_cushion 34 = .ok (.getfield 38, 3) := by decide +kernel
theorem dX10_cushion_37 : decode cX10_cushion 37 = .ok (.bipush 7, 2) := by decide +kernel
theorem dX10_cushion_39 : decode cX10_cushion 39 = .ok (.iload 4, 2) := by decide +kernel
theorem dX10_cushion_41 : decode cX10_cushion 41 = .ok (.bipush 19, 2) := by decide +kernel
theorem dX10_cushion_43 : decode cX10_cushion 43 = .ok (.idiv, 1) := by decide +kernel
theorem dX10_cushion_44 : decode cX10_cushion 44 = .ok (.iadd, 1) := by decide +kernel
theorem dX10_cushion_45 : decode cX10_cushion 45 = .ok (.iaload, 1) := by decide +kernel
theorem dX10_cushion_46 : decode cX10_cushion 46 = .ok (.istore 5, 2) := by decide +kernel
theorem dX10_cushion_48 : decode cX10_cushion 48 = .ok (.aload_n 0, 1) := by decide +kernel
theorem dX10_cushion_49 : decode cX10_cushion 49 = .ok (.getfield 38, 3) := by decide +kernel
theorem dX10_cushion_52 : decode cX10_cushion 52 = .ok (.bipush 7, 2) := by decide +kernel
theorem dX10_cushion_54 : decode cX10_cushion 54 = .ok (.iload 4, 2) := by decide +kernel
theorem dX10_cushion_56 : decode cX10_cushion 56 = .ok (.bipush 19, 2) := by decide +kernel
theorem dX10_cushion_58 : decode cX10_cushion 58 = .ok (.idiv, 1) := by decide +kernel
theorem dX10_cushion_59 : decode cX10_cushion 59 = .ok (.iadd, 1) := by decide +kernel
theorem dX10_cushion_60 : decode cX10_cushion 60 = .ok (.iload 4, 2) := by decide +kernel
theorem dX10_cushion_62 : decode cX10_cushion 62 = .ok (.bipush 19, 2) := by decide +kernel
theorem dX10_cushion_64 : decode cX10_cushion 64 = .ok (.irem, 1) := by decide +kernel
theorem dX10_cushion_65 : decode cX10_cushion 65 = .ok (.bipush 9, 2) := by decide +kernel
theorem dX10_cushion_67 : decode cX10_cushion 67 = .ok (.isub, 1) := by decide +kernel
theorem dX10_cushion_68 : decode cX10_cushion 68 = .ok (.iastore, 1) := by decide +kernel
theorem dX10_cushion_69 : decode cX10_cushion 69 = .ok (.aload_n 0, 1) := by decide +kernel
theorem dX10_cushion_70 : decode cX10_cushion 70 = .ok (.aload_n 0, 1) := by decide +kernel
theorem dX10_cushion_71 : decode cX10_cushion 71 = .ok (.getfield 13, 3) := by decide +kernel
theorem dX10_cushion_74 : decode cX10_cushion 74 = .ok (.invokevirtual 235, 3) := by decide +kernel
theorem dX10_cushion_77 : decode cX10_cushion 77 = .ok (.istore 6, 2) := by decide +kernel
theorem dX10_cushion_79 : decode cX10_cushion 79 = .ok (.aload_n 0, 1) := by decide +kernel
theorem dX10_cushion_80 : decode cX10_cushion 80 = .ok (.getfield 38, 3) := by decide +kernel
theorem dX10_cushion_83 : decode cX10_cushion 83 = .ok (.bipush 7, 2) := by decide +kernel
theorem dX10_cushion_85 : decode cX10_cushion 85 = .ok (.iload 4, 2) := by decide +kernel
theorem dX10_cushion_87 : decode cX10_cushion 87 = .ok (.bipush 19, 2) := by decide +kernel
theorem dX10_cushion_89 : decode cX10_cushion 89 = .ok (.idiv, 1) := by decide +kernel
theorem dX10_cushion_90 : decode cX10_cushion 90 = .ok (.iadd, 1) := by decide +kernel
theorem dX10_cushion_91 : decode cX10_cushion 91 = .ok (.iload 5, 2) := by decide +kernel
theorem dX10_cushion_93 : decode cX10_cushion 93 = .ok (.iastore, 1) := by decide +kernel
theorem dX10_cushion_94 : decode cX10_cushion 94 = .ok (.iload_n 3, 1) := by decide +kernel
theorem dX10_cushion_95 : decode cX10_cushion 95 = .ok (.ifCond .lt 9, 3) := by decide +kernel
theorem dX10_cushion_98 : decode cX10_cushion 98 = .ok (.iload 6, 2) := by decide +kernel
theorem dX10_cushion_100 : decode cX10_cushion 100 = .ok (.iload_n 3, 1) := by decide +kernel
theorem dX10_cushion_101 : decode cX10_cushion 101 = .ok (.if_icmp .ge 8, 3) := by decide +kernel
theorem dX10_cushion_104 : decode cX10_cushion 104 = .ok (.iload 4, 2) := by decide +kernel
theorem dX10_cushion_106 : decode cX10_cushion 106 = .ok (.goto 4, 3) := by decide +kernel
theorem dX10_cushion_109 : decode cX10_cushion 109 = .ok (.iload_n 2, 1) := by decide +kernel
theorem dX10_cushion_110 : decode cX10_cushion 110 = .ok (.istore_n 2, 1) := by decide +kernel
theorem dX10_cushion_111 : decode cX10_cushion 111 = .ok (.iload_n 2, 1) := by decide +kernel
theorem dX10_cushion_112 : decode cX10_cushion 112 = .ok (.iload 4, 2) := by decide +kernel
theorem dX10_cushion_114 : decode cX10_cushion 114 = .ok (.if_icmp .ne 8, 3) := by decide +kernel
theorem dX10_cushion_117 : decode cX10_cushion 117 = .ok (.iload 6, 2) := by decide +kernel
theorem dX10_cushion_119 : decode cX10_cushion 119 = .ok (.goto 4, 3) := by decide +kernel
theorem dX10_cushion_122 : decode cX10_cushion 122 = .ok (.iload_n 3, 1) := by decide +kernel
theorem dX10_cushion_123 : decode cX10_cushion 123 = .ok (.istore_n 3, 1) := by decide +kernel
theorem dX10_cushion_124 : decode cX10_cushion 124 = .ok (.iinc 4 1, 3) := by decide +kernel
theorem dX10_cushion_127 : decode cX10_cushion 127 = .ok (.goto (-106), 3) := by decide +kernel
theorem dX10_cushion_130 : decode cX10_cushion 130 = .ok (.iload_n 1, 1) := by decide +kernel
theorem dX10_cushion_131 : decode cX10_cushion 131 = .ok (.ifCond .ne 10, 3) := by decide +kernel
theorem dX10_cushion_134 : decode cX10_cushion 134 = .ok (.iload_n 2, 1) := by decide +kernel
theorem dX10_cushion_135 : decode cX10_cushion 135 = .ok (.bipush 19, 2) := by decide +kernel
theorem dX10_cushion_137 : decode cX10_cushion 137 = .ok (.idiv, 1) := by decide +kernel
theorem dX10_cushion_138 : decode cX10_cushion 138 = .ok (.goto 22, 3) := by decide +kernel
theorem dX10_cushion_141 : decode cX10_cushion 141 = .ok (.iload_n 1, 1) := by decide +kernel
theorem dX10_cushion_142 : decode cX10_cushion 142 = .ok (.iconst 1, 1) := by decide +kernel
theorem dX10_cushion_143 : decode cX10_cushion 143 = .ok (.if_icmp .ne 16, 3) := by decide +kernel
theorem dX10_cushion_146 : decode cX10_cushion 146 = .ok (.iload_n 2, 1) := by decide +kernel
theorem dX10_cushion_147 : decode cX10_cushion 147 = .ok (.bipush 19, 2) := by decide +kernel
theorem dX10_cushion_149 : decode cX10_cushion 149 = .ok (.irem, 1) := by decide +kernel
theorem dX10_cushion_150 : decode cX10_cushion 150 = .ok (.bipush 9, 2) := by decide +kernel
theorem dX10_cushion_152 : decode cX10_cushion 152 = .ok (.isub, 1) := by decide +kernel
theorem dX10_cushion_153 : decode cX10_cushion 153 = .ok (.bipush 100, 2) := by decide +kernel
theorem dX10_cushion_155 : decode cX10_cushion 155 = .ok (.iadd, 1) := by decide +kernel
theorem dX10_cushion_156 : decode cX10_cushion 156 = .ok (.goto 4, 3) := by decide +kernel
theorem dX10_cushion_159 : decode cX10_cushion 159 = .ok (.iload_n 3, 1) := by decide +kernel
theorem dX10_cushion_160 : decode cX10_cushion 160 = .ok (.ireturn, 1) := by decide +kernel
theorem dX10_length_0 : decode cX10_length 0 = .ok (.aload_n 0, 1) := by decide +kernel
theorem dX10_length_1 : decode cX10_length 1 = .ok (.iload_n 1, 1) := by decide +kernel
theorem dX10_length_2 : decode cX10_length 2 = .ok (.invokevirtual 193, 3) := by decide +kernel
theorem dX10_length_5 : decode cX10_length 5 = .ok (.ifCond .eq 13, 3) := by decide +kernel
theorem dX10_length_8 : decode cX10_length 8 = .ok (.iload_n 2, 1) := by decide +kernel
theorem dX10_length_9 : decode cX10_length 9 = .ok (.i2l, 1) := by decide +kernel
theorem dX10_length_10 : decode cX10_length 10 = .ok (.lconst 0, 1) := by decide +kernel
theorem dX10_length_11 : decode cX10_length 11 = .ok (.lconst 1, 1) := by decide +kernel
theorem dX10_length_12 : decode cX10_length 12 = .ok (.invokestatic 101, 3) := by decide +kernel
theorem dX10_length_15 : decode cX10_length 15 = .ok (.ifCond .ne 5, 3) := by decide +kernel
theorem dX10_length_18 : decode cX10_length 18 = .ok (.iconst (-1), 1) := by decide +kernel
theorem dX10_length_19 : decode cX10_length 19 = .ok (.ireturn, 1) := by decide +kernel
theorem dX10_length_20 : decode cX10_length 20 = .ok (.aload_n 0, 1) := by decide +kernel
theorem dX10_length_21 : decode cX10_length 21 = .ok (.getfield 7, 3) := by decide +kernel
theorem dX10_length_24 : decode cX10_length 24 = .ok (.iload_n 1, 1) := by decide +kernel
theorem dX10_length_25 : decode cX10_length 25 = .ok (.iaload, 1) := by decide +kernel
theorem dX10_length_26 : decode cX10_length 26 = .ok (.istore_n 3, 1) := by decide +kernel
theorem dX10_length_27 : decode cX10_length 27 = .ok (.iconst 0, 1) := by decide +kernel
theorem dX10_length_28 : decode cX10_length 28 = .ok (.istore 4, 2) := by decide +kernel
theorem dX10_length_30 : decode cX10_length 30 = .ok (.iconst (-1), 1) := by decide +kernel
theorem dX10_length_31 : decode cX10_length 31 = .ok (.istore 5, 2) := by decide +kernel
theorem dX10_length_33 : decode cX10_length 33 = .ok (.bipush 40, 2) := by decide +kernel
theorem dX10_length_35 : decode cX10_length 35 = .ok (.istore 6, 2) := by decide +kernel
theorem dX10_length_37 : decode cX10_length 37 = .ok (.iload 6, 2) := by decide +kernel
theorem dX10_length_39 : decode cX10_length 39 = .ok (.bipush 99, 2) := by decide +kernel
theorem dX10_length_41 : decode cX10_length 41 = .ok (.if_icmp .gt 64, 3) := by decide +kernel
theorem dX10_length_44 : decode cX10_length 44 = .ok (.aload_n 0, 1) := by decide +kernel
theorem dX10_length_45 : decode cX10_length 45 = .ok (.getfield 7, 3) := by decide +kernel
theorem dX10_length_48 : decode cX10_length 48 = .ok (.iload_n 1, 1) := by decide +kernel
theorem dX10_length_49 : decode cX10_length 49 = .ok (.iload 6, 2) := by decide +kernel
theorem dX10_length_51 : decode cX10_length 51 = .ok (.iastore, 1) := by decide +kernel
theorem dX10_length_52 : decode cX10_length 52 = .ok (.aload_n 0, 1) := by decide +kernel
theorem dX10_length_53 : decode cX10_length 53 = .ok (.aload_n 0, 1) := by decide +kernel
theorem dX10_length_54 : decode cX10_length 54 = .ok (.getfield 13, 3) := by decide +kernel
theorem dX10_length_57 : decode cX10_length 57 = .ok (.invokevirtual 235, 3) := by decide +kernel
theorem dX10_length_60 : decode cX10_length 60 = .ok (.istore 7, 2) := by decide +kernel
theorem dX10_length_62 : decode cX10_length 62 = .ok (.iload 5, 2) := by decide +kernel
theorem dX10_length_64 : decode cX10_length 64 = .ok (.ifCond .lt 10, 3) := by decide +kernel
theorem dX10_length_67 : decode cX10_length 67 = .ok (.iload 7, 2) := by decide +kernel
theorem dX10_length_69 : decode cX10_length 69 = .ok (.iload 5, 2) := by decide +kernel
theorem dX10_length_71 : decode cX10_length 71 = .ok (.if_icmp .ge 8, 3) := by decide +kernel
theorem dX10_length_74 : decode cX10_length 74 = .ok (.iload 6, 2) := by decide +kernel
theorem dX10_length_76 : decode cX10_length 76 = .ok (.goto 5, 3) := by decide +kernel
theorem dX10_length_79 : decode cX10_length 79 = .ok (.iload 4, 2) := by decide +kernel
theorem dX10_length_81 : decode cX10_length 81 = .ok (.istore 4, 2) := by decide +kernel
theorem dX10_length_83 : decode cX10_length 83 = .ok (.iload 4, 2) := by decide +kernel
theorem dX10_length_85 : decode cX10_length 85 = .ok (.iload 6, 2) := by decide +kernel
theorem dX10_length_87 : decode cX10_length 87 = .ok (.if_icmp .ne 8, 3) := by decide +kernel
theorem dX10_length_90 : decode cX10_length 90 = .ok (.iload 7, 2) := by decide +kernel
theorem dX10_length_92 : decode cX10_length 92 = .ok (.goto 5, 3) := by decide +kernel
theorem dX10_length_95 : decode cX10_length 95 = .ok (.iload 5, 2) := by decide +kernel
theorem dX10_length_97 : decode cX10_length 97 = .ok (.istore 5, 2) := by decide +kernel
theorem dX10_length_99 : decode cX10_length 99 = .ok (.iinc 6 1, 3) := by decide +kernel
theorem dX10_length_102 : decode cX10_length 102 = .ok (.goto (-65), 3) := by decide +kernel
theorem dX10_length_105 : decode cX10_length 105 = .ok (.aload_n 0, 1) := by decide +kernel
theorem dX10_length_106 : decode cX10_length 106 = .ok (.getfield 7, 3) := by decide +kernel
theorem dX10_length_109 : decode cX10_length 109 = .ok (.iload_n 1, 1) := by decide +kernel
theorem dX10_length_110 : decode cX10_length 110 = .ok (.iload_n 3, 1) := by decide +kernel
theorem dX10_length_111 : decode cX10_length 111 = .ok (.iastore, 1) := by decide +kernel
theorem dX10_length_112 : decode cX10_length 112 = .ok (.iload_n 2, 1) := by decide +kernel
theorem dX10_length_113 : decode cX10_length 113 = .ok (.ifCond .ne 8, 3) := by decide +kernel
theorem dX10_length_116 : decode cX10_length 116 = .ok (.iload 4, 2) := by decide +kernel
theorem dX10_length_118 : decode cX10_length 118 = .ok (.goto 5, 3) := by decide +kernel
theorem dX10_length_121 : decode cX10_length 121 = .ok (.iload 5, 2) := by decide +kernel
theorem dX10_length_123 : decode cX10_length 123 = .ok (.ireturn, 1) := by decide +kernel
theorem dX10_law_0 : decode cX10_law 0 = .ok (.aload_n 0, 1) := by decide +kernel
theorem dX10_law_1 : decode cX10_law 1 = .ok (.getfield 35, 3) := by decide +kernel
theorem dX10_law_4 : decode cX10_law 4 = .ok (.istore_n 1, 1) := by decide +kernel
theorem dX10_law_5 : decode cX10_law 5 = .ok (.iconst 0, 1) := by decide +kernel
theorem dX10_law_6 : decode cX10_law 6 = .ok (.istore_n 2, 1) := by decide +kernel
theorem dX10_law_7 : decode cX10_law 7 = .ok (.iconst (-1), 1) := by decide +kernel
theorem dX10_law_8 : decode cX10_law 8 = .ok (.istore_n 3, 1) := by decide +kernel
theorem dX10_law_9 : decode cX10_law 9 = .ok (.iconst 0, 1) := by decide +kernel
theorem dX10_law_10 : decode cX10_law 10 = .ok (.istore 4, 2) := by decide +kernel
theorem dX10_law_12 : decode cX10_law 12 = .ok (.iload 4, 2) := by decide +kernel
theorem dX10_law_14 : decode cX10_law 14 = .ok (.iconst 3, 1) := by decide +kernel
theorem dX10_law_15 : decode cX10_law 15 = .ok (.if_icmp .ge 55, 3) := by decide +kernel
theorem dX10_law_18 : decode cX10_law 18 = .ok (.aload_n 0, 1) := by decide +kernel
theorem dX10_law_19 : decode cX10_law 19 = .ok (.iload 4, 2) := by decide +kernel
theorem dX10_law_21 : decode cX10_law 21 = .ok (.putfield 35, 3) := by decide +kernel
theorem dX10_law_24 : decode cX10_law 24 = .ok (.aload_n 0, 1) := by decide +kernel
theorem dX10_law_25 : decode cX10_law 25 = .ok (.aload_n 0, 1) := by decide +kernel
theorem dX10_law_26 : decode cX10_law 26 = .ok (.getfield 13, 3) := by decide +kernel
theorem dX10_law_29 : decode cX10_law 29 = .ok (.invokevirtual 235, 3) := by decide +kernel
theorem dX10_law_32 : decode cX10_law 32 = .ok (.istore 5, 2) := by decide +kernel
theorem dX10_law_34 : decode cX10_law 34 = .ok (.iload_n 3, 1) := by decide +kernel
theorem dX10_law_35 : decode cX10_law 35 = .ok (.ifCond .lt 9, 3) := by decide +kernel
theorem dX10_law_38 : decode cX10_law 38 = .ok (.iload 5, 2) := by decide +kernel
theorem dX10_law_40 : decode cX10_law 40 = .ok (.iload_n 3, 1) := by decide +kernel
theorem dX10_law_41 : decode cX10_law 41 = .ok (.if_icmp .ge 8, 3) := by decide +kernel
theorem dX10_law_44 : decode cX10_law 44 = .ok (.iload 4, 2) := by decide +kernel
theorem dX10_law_46 : decode cX10_law 46 = .ok (.goto 4, 3) := by decide +kernel
theorem dX10_law_49 : decode cX10_law 49 = .ok (.iload_n 2, 1) := by decide +kernel
theorem dX10_law_50 : decode cX10_law 50 = .ok (.istore_n 2, 1) := by decide +kernel
theorem dX10_law_51 : decode cX10_law 51 = .ok (.iload_n 2, 1) := by decide +kernel
theorem dX10_law_52 : decode cX10_law 52 = .ok (.iload 4, 2) := by decide +kernel
theorem dX10_law_54 : decode cX10_law 54 = .ok (.if_icmp .ne 8, 3) := by decide +kernel
theorem dX10_law_57 : decode cX10_law 57 = .ok (.iload 5, 2) := by decide +kernel
theorem dX10_law_59 : decode cX10_law 59 = .ok (.goto 4, 3) := by decide +kernel
theorem dX10_law_62 : decode cX10_law 62 = .ok (.iload_n 3, 1) := by decide +kernel
theorem dX10_law_63 : decode cX10_law 63 = .ok (.istore_n 3, 1) := by decide +kernel
theorem dX10_law_64 : decode cX10_law 64 = .ok (.iinc 4 1, 3) := by decide +kernel
theorem dX10_law_67 : decode cX10_law 67 = .ok (.goto (-55), 3) := by decide +kernel
theorem dX10_law_70 : decode cX10_law 70 = .ok (.aload_n 0, 1) := by decide +kernel
theorem dX10_law_71 : decode cX10_law 71 = .ok (.iload_n 1, 1) := by decide +kernel
theorem dX10_law_72 : decode cX10_law 72 = .ok (.putfield 35, 3) := by decide +kernel
theorem dX10_law_75 : decode cX10_law 75 = .ok (.iload_n 2, 1) := by decide +kernel
theorem dX10_law_76 : decode cX10_law 76 = .ok (.ireturn, 1) := by decide +kernel
theorem dX10_pairs_0 : decode cX10_pairs 0 = .ok (.iload_n 1, 1) := by decide +kernel
theorem dX10_pairs_1 : decode cX10_pairs 1 = .ok (.i2l, 1) := by decide +kernel
theorem dX10_pairs_2 : decode cX10_pairs 2 = .ok (.lconst 0, 1) := by decide +kernel
theorem dX10_pairs_3 : decode cX10_pairs 3 = .ok (.lconst 1, 1) := by decide +kernel
theorem dX10_pairs_4 : decode cX10_pairs 4 = .ok (.invokestatic 101, 3) := by decide +kernel
theorem dX10_pairs_7 : decode cX10_pairs 7 = .ok (.ifCond .ne 5, 3) := by decide +kernel
theorem dX10_pairs_10 : decode cX10_pairs 10 = .ok (.iconst (-1), 1) := by decide +kernel
theorem dX10_pairs_11 : decode cX10_pairs 11 = .ok (.ireturn, 1) := by decide +kernel
theorem dX10_pairs_12 : decode cX10_pairs 12 = .ok (.aload_n 0, 1) := by decide +kernel
theorem dX10_pairs_13 : decode cX10_pairs 13 = .ok (.aload_n 0, 1) := by decide +kernel
theorem dX10_pairs_14 : decode cX10_pairs 14 = .ok (.getfield 13, 3) := by decide +kernel
theorem dX10_pairs_17 : decode cX10_pairs 17 = .ok (.invokevirtual 235, 3) := by decide +kernel
theorem dX10_pairs_20 : decode cX10_pairs 20 = .ok (.pop, 1) := by decide +kernel
theorem dX10_pairs_21 : decode cX10_pairs 21 = .ok (.iconst 0, 1) := by decide +kernel
theorem dX10_pairs_22 : decode cX10_pairs 22 = .ok (.istore_n 2, 1) := by decide +kernel
theorem dX10_pairs_23 : decode cX10_pairs 23 = .ok (.iload_n 2, 1) := by decide +kernel
theorem dX10_pairs_24 : decode cX10_pairs 24 = .ok (.aload_n 0, 1) := by decide +kernel
theorem dX10_pairs_25 : decode cX10_pairs 25 = .ok (.getfield 29, 3) := by decide +kernel
theorem dX10_pairs_28 : decode cX10_pairs 28 = .ok (.if_icmp .ge 35, 3) := by decide +kernel
theorem dX10_pairs_31 : decode cX10_pairs 31 = .ok (.aload_n 0, 1) := by decide +kernel
theorem dX10_pairs_32 : decode cX10_pairs 32 = .ok (.getfield 83, 3) := by decide +kernel
theorem dX10_pairs_35 : decode cX10_pairs 35 = .ok (.iload_n 2, 1) := by decide +kernel
theorem dX10_pairs_36 : decode cX10_pairs 36 = .ok (.aload_n 0, 1) := by decide +kernel
theorem dX10_pairs_37 : decode cX10_pairs 37 = .ok (.getfield 65, 3) := by decide +kernel
theorem dX10_pairs_40 : decode cX10_pairs 40 = .ok (.iload_n 2, 1) := by decide +kernel
theorem dX10_pairs_41 : decode cX10_pairs 41 = .ok (.iaload, 1) := by decide +kernel
theorem dX10_pairs_42 : decode cX10_pairs 42 = .ok (.ifCond .ge 8, 3) := by decide +kernel
theorem dX10_pairs_45 : decode cX10_pairs 45 = .ok (.bipush (-4), 2) := by decide +kernel
theorem dX10_pairs_47 : decode cX10_pairs 47 = .ok (.goto 9, 3) := by decide +kernel
theorem dX10_pairs_50 : decode cX10_pairs 50 = .ok (.aload_n 0, 1) := by decide +kernel
theorem dX10_pairs_51 : decode cX10_pairs 51 = .ok (.getfield 71, 3) := by decide +kernel
theorem dX10_pairs_54 : decode cX10_pairs 54 = .ok (.iload_n 2, 1) := by decide +kernel
theorem dX10_pairs_55 : decode cX10_pairs 55 = .ok (.iaload, 1) := by decide +kernel
theorem dX10_pairs_56 : decode cX10_pairs 56 = .ok (.iastore, 1) := by decide +kernel
theorem dX10_pairs_57 : decode cX10_pairs 57 = .ok (.iinc 2 1, 3) := by decide +kernel
theorem dX10_pairs_60 : decode cX10_pairs 60 = .ok (.goto (-37), 3) := by decide +kernel
theorem dX10_pairs_63 : decode cX10_pairs 63 = .ok (.iconst 0, 1) := by decide +kernel
theorem dX10_pairs_64 : decode cX10_pairs 64 = .ok (.istore_n 2, 1) := by decide +kernel
theorem dX10_pairs_65 : decode cX10_pairs 65 = .ok (.bipush (-4), 2) := by decide +kernel
theorem dX10_pairs_67 : decode cX10_pairs 67 = .ok (.istore_n 3, 1) := by decide +kernel
theorem dX10_pairs_68 : decode cX10_pairs 68 = .ok (.iconst 0, 1) := by decide +kernel
theorem dX10_pairs_69 : decode cX10_pairs 69 = .ok (.istore 4, 2) := by decide +kernel
theorem dX10_pairs_71 : decode cX10_pairs 71 = .ok (.iload 4, 2) := by decide +kernel
theorem dX10_pairs_73 : decode cX10_pairs 73 = .ok (.aload_n 0, 1) := by decide +kernel
theorem dX10_pairs_74 : decode cX10_pairs 74 = .ok (.getfield 29, 3) := by decide +kernel
theorem dX10_pairs_77 : decode cX10_pairs 77 = .ok (.if_icmp .ge 167, 3) := by decide +kernel
theorem dX10_pairs_80 : decode cX10_pairs 80 = .ok (.iload 4, 2) := by decide +kernel
theorem dX10_pairs_82 : decode cX10_pairs 82 = .ok (.iconst 1, 1) := by decide +kernel
theorem dX10_pairs_83 : decode cX10_pairs 83 = .ok (.iadd, 1) := by decide +kernel
theorem dX10_pairs_84 : decode cX10_pairs 84 = .ok (.istore 5, 2) := by decide +kernel
theorem dX10_pairs_86 : decode cX10_pairs 86 = .ok (.iload 5, 2) := by decide +kernel
theorem dX10_pairs_88 : decode cX10_pairs 88 = .ok (.aload_n 0, 1) := by decide +kernel
theorem dX10_pairs_89 : decode cX10_pairs 89 = .ok (.getfield 29, 3) := by decide +kernel
theorem dX10_pairs_92 : decode cX10_pairs 92 = .ok (.if_icmp .ge 146, 3) := by decide +kernel
theorem dX10_pairs_95 : decode cX10_pairs 95 = .ok (.aload_n 0, 1) := by decide +kernel
theorem dX10_pairs_96 : decode cX10_pairs 96 = .ok (.iload 4, 2) := by decide +kernel
theorem dX10_pairs_98 : decode cX10_pairs 98 = .ok (.invokevirtual 216, 3) := by decide +kernel
theorem dX10_pairs_101 : decode cX10_pairs 101 = .ok (.istore 6, 2) := by decide +kernel
theorem dX10_pairs_103 : decode cX10_pairs 103 = .ok (.aload_n 0, 1) := by decide +kernel
theorem dX10_pairs_104 : decode cX10_pairs 104 = .ok (.iload 5, 2) := by decide +kernel
theorem dX10_pairs_106 : decode cX10_pairs 106 = .ok (.invokevirtual 216, 3) := by decide +kernel
theorem dX10_pairs_109 : decode cX10_pairs 109 = .ok (.istore 7, 2) := by decide +kernel
theorem dX10_pairs_111 : decode cX10_pairs 111 = .ok (.aload_n 0, 1) := by decide +kernel
theorem dX10_pairs_112 : decode cX10_pairs 112 = .ok (.iload 6, 2) := by decide +kernel
theorem dX10_pairs_114 : decode cX10_pairs 114 = .ok (.iload 7, 2) := by decide +kernel
theorem dX10_pairs_116 : decode cX10_pairs 116 = .ok (.invokevirtual 248, 3) := by decide +kernel
theorem dX10_pairs_119 : decode cX10_pairs 119 = .ok (.aload_n 0, 1) := by decide +kernel
theorem dX10_pairs_120 : decode cX10_pairs 120 = .ok (.aload_n 0, 1) := by decide +kernel
theorem dX10_pairs_121 : decode cX10_pairs 121 = .ok (.getfield 13, 3) := by decide +kernel
theorem dX10_pairs_124 : decode cX10_pairs 124 = .ok (.invokevirtual 235, 3) := by decide +kernel
theorem dX10_pairs_127 : decode cX10_pairs 127 = .ok (.pop, 1) := by decide +kernel
theorem dX10_pairs_128 : decode cX10_pairs 128 = .ok (.aload_n 0, 1) := by decide +kernel
theorem dX10_pairs_129 : decode cX10_pairs 129 = .ok (.iload 6, 2) := by decide +kernel
theorem dX10_pairs_131 : decode cX10_pairs 131 = .ok (.iload 7, 2) := by decide +kernel
theorem dX10_pairs_133 : decode cX10_pairs 133 = .ok (.invokevirtual 248, 3) := by decide +kernel
theorem dX10_pairs_136 : decode cX10_pairs 136 = .ok (.aload_n 0, 1) := by decide +kernel
theorem dX10_pairs_137 : decode cX10_pairs 137 = .ok (.getfield 65, 3) := by decide +kernel
theorem dX10_pairs_140 : decode cX10_pairs 140 = .ok (.iload 4, 2) := by decide +kernel
theorem dX10_pairs_142 : decode cX10_pairs 142 = .ok (.iaload, 1) := by decide +kernel
theorem dX10_pairs_143 : decode cX10_pairs 143 = .ok (.ifCond .lt 51, 3) := by decide +kernel
theorem dX10_pairs_146 : decode cX10_pairs 146 = .ok (.aload_n 0, 1) := by decide +kernel
theorem dX10_pairs_147 : decode cX10_pairs 147 = .ok (.getfield 65, 3) := by decide +kernel
theorem dX10_pairs_150 : decode cX10_pairs 150 = .ok (.iload 5, 2) := by decide +kernel
theorem dX10_pairs_152 : decode cX10_pairs 152 = .ok (.iaload, 1) := by decide +kernel
theorem dX10_pairs_153 : decode cX10_pairs 153 = .ok (.ifCond .lt 41, 3) := by decide +kernel
theorem dX10_pairs_156 : decode cX10_pairs 156 = .ok (.aload_n 0, 1) := by decide +kernel
theorem dX10_pairs_157 : decode cX10_pairs 157 = .ok (.getfield 71, 3) := by decide +kernel
theorem dX10_pairs_160 : decode cX10_pairs 160 = .ok (.iload 4, 2) := by decide +kernel
theorem dX10_pairs_162 : decode cX10_pairs 162 = .ok (.iaload, 1) := by decide +kernel
theorem dX10_pairs_163 : decode cX10_pairs 163 = .ok (.aload_n 0, 1) := by decide +kernel
theorem dX10_pairs_164 : decode cX10_pairs 164 = .ok (.getfield 83, 3) := by decide +kernel
theorem dX10_pairs_167 : decode cX10_pairs 167 = .ok (.iload 4, 2) := by decide +kernel
theorem dX10_pairs_169 : decode cX10_pairs 169 = .ok (.iaload, 1) := by decide +kernel
theorem dX10_pairs_170 : decode cX10_pairs 170 = .ok (.if_icmp .ge 24, 3) := by decide +kernel
theorem dX10_pairs_173 : decode cX10_pairs 173 = .ok (.aload_n 0, 1) := by decide +kernel
theorem dX10_pairs_174 : decode cX10_pairs 174 = .ok (.getfield 71, 3) := by decide +kernel
theorem dX10_pairs_177 : decode cX10_pairs 177 = .ok (.iload 5, 2) := by decide +kernel
theorem dX10_pairs_179 : decode cX10_pairs 179 = .ok (.iaload, 1) := by decide +kernel
theorem dX10_pairs_180 : decode cX10_pairs 180 = .ok (.aload_n 0, 1) := by decide +kernel
theorem dX10_pairs_181 : decode cX10_pairs 181 = .ok (.getfield 83, 3) := by decide +kernel
theorem dX10_pairs_184 : decode cX10_pairs 184 = .ok (.iload 5, 2) := by decide +kernel
theorem dX10_pairs_186 : decode cX10_pairs 186 = .ok (.iaload, 1) := by decide +kernel
theorem dX10_pairs_187 : decode cX10_pairs 187 = .ok (.if_icmp .ge 7, 3) := by decide +kernel
theorem dX10_pairs_190 : decode cX10_pairs 190 = .ok (.iconst 1, 1) := by decide +kernel
theorem dX10_pairs_191 : decode cX10_pairs 191 = .ok (.goto 4, 3) := by decide +kernel
theorem dX10_pairs_194 : decode cX10_pairs 194 = .ok (.iconst 0, 1) := by decide +kernel
theorem dX10_pairs_195 : decode cX10_pairs 195 = .ok (.istore 8, 2) := by decide +kernel
theorem dX10_pairs_197 : decode cX10_pairs 197 = .ok (.iload 8, 2) := by decide +kernel
theorem dX10_pairs_199 : decode cX10_pairs 199 = .ok (.ifCond .eq 18, 3) := by decide +kernel
theorem dX10_pairs_202 : decode cX10_pairs 202 = .ok (.iload_n 2, 1) := by decide +kernel
theorem dX10_pairs_203 : decode cX10_pairs 203 = .ok (.ifCond .ne 14, 3) := by decide +kernel
theorem dX10_pairs_206 : decode cX10_pairs 206 = .ok (.bipush 10, 2) := by decide +kernel
theorem dX10_pairs_208 : decode cX10_pairs 208 = .ok (.iload 4, 2) := by decide +kernel
theorem dX10_pairs_210 : decode cX10_pairs 210 = .ok (.imul, 1) := by decide +kernel
theorem dX10_pairs_211 : decode cX10_pairs 211 = .ok (.iload 5, 2) := by decide +kernel
theorem dX10_pairs_213 : decode cX10_pairs 213 = .ok (.iadd, 1) := by decide +kernel
theorem dX10_pairs_214 : decode cX10_pairs 214 = .ok (.goto 4, 3) := by decide +kernel
theorem dX10_pairs_217 : decode cX10_pairs 217 = .ok (.iload_n 3, 1) := by decide +kernel
theorem dX10_pairs_218 : decode cX10_pairs 218 = .ok (.istore_n 3, 1) := by decide +kernel
theorem dX10_pairs_219 : decode cX10_pairs 219 = .ok (.iload_n 2, 1) := by decide +kernel
theorem dX10_pairs_220 : decode cX10_pairs 220 = .ok (.iload 8, 2) := by decide +kernel
theorem dX10_pairs_222 : decode cX10_pairs 222 = .ok (.ifCond .eq 7, 3) := by decide +kernel
theorem dX10_pairs_225 : decode cX10_pairs 225 = .ok (.iconst 1, 1) := by decide +kernel
theorem dX10_pairs_226 : decode cX10_pairs 226 = .ok (.goto 4, 3) := by decide +kernel
theorem dX10_pairs_229 : decode cX10_pairs 229 = .ok (.iconst 0, 1) := by decide +kernel
theorem dX10_pairs_230 : decode cX10_pairs 230 = .ok (.iadd, 1) := by decide +kernel
theorem dX10_pairs_231 : decode cX10_pairs 231 = .ok (.istore_n 2, 1) := by decide +kernel
theorem dX10_pairs_232 : decode cX10_pairs 232 = .ok (.iinc 5 1, 3) := by decide +kernel
theorem dX10_pairs_235 : decode cX10_pairs 235 = .ok (.goto (-149), 3) := by decide +kernel
theorem dX10_pairs_238 : decode cX10_pairs 238 = .ok (.iinc 4 1, 3) := by decide +kernel
theorem dX10_pairs_241 : decode cX10_pairs 241 = .ok (.goto (-170), 3) := by decide +kernel
theorem dX10_pairs_244 : decode cX10_pairs 244 = .ok (.iload_n 1, 1) := by decide +kernel
theorem dX10_pairs_245 : decode cX10_pairs 245 = .ok (.ifCond .ne 7, 3) := by decide +kernel
theorem dX10_pairs_248 : decode cX10_pairs 248 = .ok (.iload_n 2, 1) := by decide +kernel
theorem dX10_pairs_249 : decode cX10_pairs 249 = .ok (.goto 4, 3) := by decide +kernel
theorem dX10_pairs_252 : decode cX10_pairs 252 = .ok (.iload_n 3, 1) := by decide +kernel
theorem dX10_pairs_253 : decode cX10_pairs 253 = .ok (.ireturn, 1) := by decide +kernel
theorem dX10_later_0 : decode cX10_later 0 = .ok (.aload_n 0, 1) := by decide +kernel
theorem dX10_later_1 : decode cX10_later 1 = .ok (.iload_n 1, 1) := by decide +kernel
theorem dX10_later_2 : decode cX10_later 2 = .ok (.invokevirtual 209, 3) := by decide +kernel
theorem dX10_later_5 : decode cX10_later 5 = .ok (.ifCond .eq 13, 3) := by decide +kernel
theorem dX10_later_8 : decode cX10_later 8 = .ok (.iload_n 2, 1) := by decide +kernel
theorem dX10_later_9 : decode cX10_later 9 = .ok (.i2l, 1) := by decide +kernel
theorem dX10_later_10 : decode cX10_later 10 = .ok (.lconst 0, 1) := by decide +kernel
theorem dX10_later_11 : decode cX10_later 11 = .ok (.lconst 1, 1) := by decide +kernel
theorem dX10_later_12 : decode cX10_later 12 = .ok (.invokestatic 101, 3) := by decide +kernel
theorem dX10_later_15 : decode cX10_later 15 = .ok (.ifCond .ne 5, 3) := by decide +kernel
theorem dX10_later_18 : decode cX10_later 18 = .ok (.iconst (-1), 1) := by decide +kernel
theorem dX10_later_19 : decode cX10_later 19 = .ok (.ireturn, 1) := by decide +kernel
theorem dX10_later_20 : decode cX10_later 20 = .ok (.aload_n 0, 1) := by decide +kernel
theorem dX10_later_21 : decode cX10_later 21 = .ok (.getfield 38, 3) := by decide +kernel
theorem dX10_later_24 : decode cX10_later 24 = .ok (.bipush 14, 2) := by decide +kernel
theorem dX10_later_26 : decode cX10_later 26 = .ok (.iload_n 1, 1) := by decide +kernel
theorem dX10_later_27 : decode cX10_later 27 = .ok (.iadd, 1) := by decide +kernel
theorem dX10_later_28 : decode cX10_later 28 = .ok (.iaload, 1) := by decide +kernel
theorem dX10_later_29 : decode cX10_later 29 = .ok (.istore_n 3, 1) := by decide +kernel
theorem dX10_later_30 : decode cX10_later 30 = .ok (.bipush (-4), 2) := by decide +kernel
theorem dX10_later_32 : decode cX10_later 32 = .ok (.istore 4, 2) := by decide +kernel
theorem dX10_later_34 : decode cX10_later 34 = .ok (.iconst 0, 1) := by decide +kernel
theorem dX10_later_35 : decode cX10_later 35 = .ok (.istore 5, 2) := by decide +kernel
theorem dX10_later_37 : decode cX10_later 37 = .ok (.iconst 0, 1) := by decide +kernel
theorem dX10_later_38 : decode cX10_later 38 = .ok (.istore 6, 2) := by decide +kernel
theorem dX10_later_40 : decode cX10_later 40 = .ok (.iload 6, 2) := by decide +kernel
theorem dX10_later_42 : decode cX10_later 42 = .ok (.bipush 10, 2) := by decide +kernel
theorem dX10_later_44 : decode cX10_later 44 = .ok (.if_icmp .ge 68, 3) := by decide +kernel
theorem dX10_later_47 : decode cX10_later 47 = .ok (.aload_n 0, 1) := by decide +kernel
theorem dX10_later_48 : decode cX10_later 48 = .ok (.getfield 38, 3) := by decide +kernel
theorem dX10_later_51 : decode cX10_later 51 = .ok (.bipush 14, 2) := by decide +kernel
theorem dX10_later_53 : decode cX10_later 53 = .ok (.iload_n 1, 1) := by decide +kernel
theorem dX10_later_54 : decode cX10_later 54 = .ok (.iadd, 1) := by decide +kernel
theorem dX10_later_55 : decode cX10_later 55 = .ok (.iload_n 3, 1) := by decide +kernel
theorem dX10_later_56 : decode cX10_later 56 = .ok (.iload 6, 2) := by decide +kernel
theorem dX10_later_58 : decode cX10_later 58 = .ok (.iadd, 1) := by decide +kernel
theorem dX10_later_59 : decode cX10_later 59 = .ok (.iastore, 1) := by decide +kernel
theorem dX10_later_60 : decode cX10_later 60 = .ok (.aload_n 0, 1) := by decide +kernel
theorem dX10_later_61 : decode cX10_later 61 = .ok (.aload_n 0, 1) := by decide +kernel
theorem dX10_later_62 : decode cX10_later 62 = .ok (.getfield 13, 3) := by decide +kernel
theorem dX10_later_65 : decode cX10_later 65 = .ok (.invokevirtual 235, 3) := by decide +kernel
theorem dX10_later_68 : decode cX10_later 68 = .ok (.pop, 1) := by decide +kernel
theorem dX10_later_69 : decode cX10_later 69 = .ok (.aload_n 0, 1) := by decide +kernel
theorem dX10_later_70 : decode cX10_later 70 = .ok (.getfield 65, 3) := by decide +kernel
theorem dX10_later_73 : decode cX10_later 73 = .ok (.iload_n 1, 1) := by decide +kernel
theorem dX10_later_74 : decode cX10_later 74 = .ok (.iaload, 1) := by decide +kernel
theorem dX10_later_75 : decode cX10_later 75 = .ok (.ifCond .lt 31, 3) := by decide +kernel
theorem dX10_later_78 : decode cX10_later 78 = .ok (.iload 4, 2) := by decide +kernel
theorem dX10_later_80 : decode cX10_later 80 = .ok (.ifCond .lt 14, 3) := by decide +kernel
theorem dX10_later_83 : decode cX10_later 83 = .ok (.aload_n 0, 1) := by decide +kernel
theorem dX10_later_84 : decode cX10_later 84 = .ok (.getfield 71, 3) := by decide +kernel
theorem dX10_later_87 : decode cX10_later 87 = .ok (.iload_n 1, 1) := by decide +kernel
theorem dX10_later_88 : decode cX10_later 88 = .ok (.iaload, 1) := by decide +kernel
theorem dX10_later_89 : decode cX10_later 89 = .ok (.iload 5, 2) := by decide +kernel
theorem dX10_later_91 : decode cX10_later 91 = .ok (.if_icmp .ge 15, 3) := by decide +kernel
theorem dX10_later_94 : decode cX10_later 94 = .ok (.iload 6, 2) := by decide +kernel
theorem dX10_later_96 : decode cX10_later 96 = .ok (.istore 4, 2) := by decide +kernel
theorem dX10_later_98 : decode cX10_later 98 = .ok (.aload_n 0, 1) := by decide +kernel
theorem dX10_later_99 : decode cX10_later 99 = .ok (.getfield 71, 3) := by decide +kernel
theorem dX10_later_102 : decode cX10_later 102 = .ok (.iload_n 1, 1) := by decide +kernel
theorem dX10_later_103 : decode cX10_later 103 = .ok (.iaload, 1) := by decide +kernel
theorem dX10_later_104 : decode cX10_later 104 = .ok (.istore 5, 2) := by decide +kernel
theorem dX10_later_106 : decode cX10_later 106 = .ok (.iinc 6 1, 3) := by decide +kernel
theorem dX10_later_109 : decode cX10_later 109 = .ok (.goto (-69), 3) := by decide +kernel
theorem dX10_later_112 : decode cX10_later 112 = .ok (.aload_n 0, 1) := by decide +kernel
theorem dX10_later_113 : decode cX10_later 113 = .ok (.getfield 38, 3) := by decide +kernel
theorem dX10_later_116 : decode cX10_later 116 = .ok (.bipush 14, 2) := by decide +kernel
theorem dX10_later_118 : decode cX10_later 118 = .ok (.iload_n 1, 1) := by decide +kernel
theorem dX10_later_119 : decode cX10_later 119 = .ok (.iadd, 1) := by decide +kernel
theorem dX10_later_120 : decode cX10_later 120 = .ok (.iload_n 3, 1) := by decide +kernel
theorem dX10_later_121 : decode cX10_later 121 = .ok (.iastore, 1) := by decide +kernel
theorem dX10_later_122 : decode cX10_later 122 = .ok (.iload 4, 2) := by decide +kernel
theorem dX10_later_124 : decode cX10_later 124 = .ok (.ifCond .ge 8, 3) := by decide +kernel
theorem dX10_later_127 : decode cX10_later 127 = .ok (.bipush (-4), 2) := by decide +kernel
theorem dX10_later_129 : decode cX10_later 129 = .ok (.goto 14, 3) := by decide +kernel
theorem dX10_later_132 : decode cX10_later 132 = .ok (.iload_n 2, 1) := by decide +kernel
theorem dX10_later_133 : decode cX10_later 133 = .ok (.ifCond .ne 8, 3) := by decide +kernel
theorem dX10_later_136 : decode cX10_later 136 = .ok (.iload 4, 2) := by decide +kernel
theorem dX10_later_138 : decode cX10_later 138 = .ok (.goto 5, 3) := by decide +kernel
theorem dX10_later_141 : decode cX10_later 141 = .ok (.iload 5, 2) := by decide +kernel
theorem dX10_later_143 : decode cX10_later 143 = .ok (.ireturn, 1) := by decide +kernel
theorem dX10_rival_0 : decode cX10_rival 0 = .ok (.aload_n 0, 1) := by decide +kernel
theorem dX10_rival_1 : decode cX10_rival 1 = .ok (.aload_n 0, 1) := by decide +kernel
theorem dX10_rival_2 : decode cX10_rival 2 = .ok (.getfield 13, 3) := by decide +kernel
theorem dX10_rival_5 : decode cX10_rival 5 = .ok (.invokevirtual 235, 3) := by decide +kernel
theorem dX10_rival_8 : decode cX10_rival 8 = .ok (.pop, 1) := by decide +kernel
theorem dX10_rival_9 : decode cX10_rival 9 = .ok (.iconst 0, 1) := by decide +kernel
theorem dX10_rival_10 : decode cX10_rival 10 = .ok (.istore_n 1, 1) := by decide +kernel
theorem dX10_rival_11 : decode cX10_rival 11 = .ok (.iconst 0, 1) := by decide +kernel
theorem dX10_rival_12 : decode cX10_rival 12 = .ok (.istore_n 2, 1) := by decide +kernel
theorem dX10_rival_13 : decode cX10_rival 13 = .ok (.iload_n 2, 1) := by decide +kernel
theorem dX10_rival_14 : decode cX10_rival 14 = .ok (.aload_n 0, 1) := by decide +kernel
theorem dX10_rival_15 : decode cX10_rival 15 = .ok (.getfield 29, 3) := by decide +kernel
theorem dX10_rival_18 : decode cX10_rival 18 = .ok (.if_icmp .ge 74, 3) := by decide +kernel
theorem dX10_rival_21 : decode cX10_rival 21 = .ok (.iconst 0, 1) := by decide +kernel
theorem dX10_rival_22 : decode cX10_rival 22 = .ok (.istore_n 3, 1) := by decide +kernel
theorem dX10_rival_23 : decode cX10_rival 23 = .ok (.iload_n 3, 1) := by decide +kernel
theorem dX10_rival_24 : decode cX10_rival 24 = .ok (.aload_n 0, 1) := by decide +kernel
theorem dX10_rival_25 : decode cX10_rival 25 = .ok (.getfield 167, 3) := by decide +kernel
theorem dX10_rival_28 : decode cX10_rival 28 = .ok (.if_icmp .ge 58, 3) := by decide +kernel
theorem dX10_rival_31 : decode cX10_rival 31 = .ok (.aload_n 0, 1) := by decide +kernel
theorem dX10_rival_32 : decode cX10_rival 32 = .ok (.iload_n 2, 1) := by decide +kernel
theorem dX10_rival_33 : decode cX10_rival 33 = .ok (.aload_n 0, 1) := by decide +kernel
theorem dX10_rival_34 : decode cX10_rival 34 = .ok (.iload_n 2, 1) := by decide +kernel
theorem dX10_rival_35 : decode cX10_rival 35 = .ok (.aload_n 0, 1) := by decide +kernel
theorem dX10_rival_36 : decode cX10_rival 36 = .ok (.getfield 38, 3) := by decide +kernel
theorem dX10_rival_39 : decode cX10_rival 39 = .ok (.bipush 14, 2) := by decide +kernel
theorem dX10_rival_41 : decode cX10_rival 41 = .ok (.iload_n 2, 1) := by decide +kernel
theorem dX10_rival_42 : decode cX10_rival 42 = .ok (.iadd, 1) := by decide +kernel
theorem dX10_rival_43 : decode cX10_rival 43 = .ok (.iaload, 1) := by decide +kernel
theorem dX10_rival_44 : decode cX10_rival 44 = .ok (.invokevirtual 203, 3) := by decide +kernel
theorem dX10_rival_47 : decode cX10_rival 47 = .ok (.aload_n 0, 1) := by decide +kernel
theorem dX10_rival_48 : decode cX10_rival 48 = .ok (.getfield 32, 3) := by decide +kernel
theorem dX10_rival_51 : decode cX10_rival 51 = .ok (.iload_n 3, 1) := by decide +kernel
theorem dX10_rival_52 : decode cX10_rival 52 = .ok (.iaload, 1) := by decide +kernel
theorem dX10_rival_53 : decode cX10_rival 53 = .ok (.isub, 1) := by decide +kernel
theorem dX10_rival_54 : decode cX10_rival 54 = .ok (.invokevirtual 206, 3) := by decide +kernel
theorem dX10_rival_57 : decode cX10_rival 57 = .ok (.istore 4, 2) := by decide +kernel
theorem dX10_rival_59 : decode cX10_rival 59 = .ok (.iload_n 1, 1) := by decide +kernel
theorem dX10_rival_60 : decode cX10_rival 60 = .ok (.iload 4, 2) := by decide +kernel
theorem dX10_rival_62 : decode cX10_rival 62 = .ok (.aload_n 0, 1) := by decide +kernel
theorem dX10_rival_63 : decode cX10_rival 63 = .ok (.getfield 71, 3) := by decide +kernel
theorem dX10_rival_66 : decode cX10_rival 66 = .ok (.iload_n 2, 1) := by decide +kernel
theorem dX10_rival_67 : decode cX10_rival 67 = .ok (.iaload, 1) := by decide +kernel
theorem dX10_rival_68 : decode cX10_rival 68 = .ok (.if_icmp .ge 9, 3) := by decide +kernel
theorem dX10_rival_71 : decode cX10_rival 71 = .ok (.iconst 1, 1) := by decide +kernel
theorem dX10_rival_72 : decode cX10_rival 72 = .ok (.iload_n 2, 1) := by decide +kernel
theorem dX10_rival_73 : decode cX10_rival 73 = .ok (.ishl, 1) := by decide +kernel
theorem dX10_rival_74 : decode cX10_rival 74 = .ok (.goto 4, 3) := by decide +kernel
theorem dX10_rival_77 : decode cX10_rival 77 = .ok (.iconst 0, 1) := by decide +kernel
theorem dX10_rival_78 : decode cX10_rival 78 = .ok (.ior, 1) := by decide +kernel
theorem dX10_rival_79 : decode cX10_rival 79 = .ok (.istore_n 1, 1) := by decide +kernel
theorem dX10_rival_80 : decode cX10_rival 80 = .ok (.iinc 3 1, 3) := by decide +kernel
theorem dX10_rival_83 : decode cX10_rival 83 = .ok (.goto (-60), 3) := by decide +kernel
theorem dX10_rival_86 : decode cX10_rival 86 = .ok (.iinc 2 1, 3) := by decide +kernel
theorem dX10_rival_89 : decode cX10_rival 89 = .ok (.goto (-76), 3) := by decide +kernel
theorem dX10_rival_92 : decode cX10_rival 92 = .ok (.iload_n 1, 1) := by decide +kernel
theorem dX10_rival_93 : decode cX10_rival 93 = .ok (.ireturn, 1) := by decide +kernel
theorem dX10_fewest_0 : decode cX10_fewest 0 = .ok (.iload_n 1, 1) := by decide +kernel
theorem dX10_fewest_1 : decode cX10_fewest 1 = .ok (.invokestatic 196, 3) := by decide +kernel
theorem dX10_fewest_4 : decode cX10_fewest 4 = .ok (.ifCond .ne 5, 3) := by decide +kernel
theorem dX10_fewest_7 : decode cX10_fewest 7 = .ok (.iconst (-1), 1) := by decide +kernel
theorem dX10_fewest_8 : decode cX10_fewest 8 = .ok (.ireturn, 1) := by decide +kernel
theorem dX10_fewest_9 : decode cX10_fewest 9 = .ok (.iconst 1, 1) := by decide +kernel
theorem dX10_fewest_10 : decode cX10_fewest 10 = .ok (.istore_n 2, 1) := by decide +kernel
theorem dX10_fewest_11 : decode cX10_fewest 11 = .ok (.iload_n 2, 1) := by decide +kernel
theorem dX10_fewest_12 : decode cX10_fewest 12 = .ok (.aload_n 0, 1) := by decide +kernel
theorem dX10_fewest_13 : decode cX10_fewest 13 = .ok (.getfield 13, 3) := by decide +kernel
theorem dX10_fewest_16 : decode cX10_fewest 16 = .ok (.if_icmp .gt 68, 3) := by decide +kernel
theorem dX10_fewest_19 : decode cX10_fewest 19 = .ok (.aload_n 0, 1) := by decide +kernel
theorem dX10_fewest_20 : decode cX10_fewest 20 = .ok (.iload_n 2, 1) := by decide +kernel
theorem dX10_fewest_21 : decode cX10_fewest 21 = .ok (.invokevirtual 235, 3) := by decide +kernel
theorem dX10_fewest_24 : decode cX10_fewest 24 = .ok (.pop, 1) := by decide +kernel
theorem dX10_fewest_25 : decode cX10_fewest 25 = .ok (.iconst 1, 1) := by decide +kernel
theorem dX10_fewest_26 : decode cX10_fewest 26 = .ok (.istore_n 3, 1) := by decide +kernel
theorem dX10_fewest_27 : decode cX10_fewest 27 = .ok (.iconst 0, 1) := by decide +kernel
theorem dX10_fewest_28 : decode cX10_fewest 28 = .ok (.istore 4, 2) := by decide +kernel
theorem dX10_fewest_30 : decode cX10_fewest 30 = .ok (.iload 4, 2) := by decide +kernel
theorem dX10_fewest_32 : decode cX10_fewest 32 = .ok (.aload_n 0, 1) := by decide +kernel
theorem dX10_fewest_33 : decode cX10_fewest 33 = .ok (.getfield 29, 3) := by decide +kernel
theorem dX10_fewest_36 : decode cX10_fewest 36 = .ok (.if_icmp .ge 36, 3) := by decide +kernel
theorem dX10_fewest_39 : decode cX10_fewest 39 = .ok (.iload_n 3, 1) := by decide +kernel
theorem dX10_fewest_40 : decode cX10_fewest 40 = .ok (.ifCond .eq 24, 3) := by decide +kernel
theorem dX10_fewest_43 : decode cX10_fewest 43 = .ok (.aload_n 0, 1) := by decide +kernel
theorem dX10_fewest_44 : decode cX10_fewest 44 = .ok (.getfield 65, 3) := by decide +kernel
theorem dX10_fewest_47 : decode cX10_fewest 47 = .ok (.iload 4, 2) := by decide +kernel
theorem dX10_fewest_49 : decode cX10_fewest 49 = .ok (.iaload, 1) := by decide +kernel
theorem dX10_fewest_50 : decode cX10_fewest 50 = .ok (.i2l, 1) := by decide +kernel
theorem dX10_fewest_51 : decode cX10_fewest 51 = .ok (.lconst 0, 1) := by decide +kernel
theorem dX10_fewest_52 : decode cX10_fewest 52 = .ok (.iload_n 1, 1) := by decide +kernel
theorem dX10_fewest_53 : decode cX10_fewest 53 = .ok (.i2l, 1) := by decide +kernel
theorem dX10_fewest_54 : decode cX10_fewest 54 = .ok (.invokestatic 101, 3) := by decide +kernel
theorem dX10_fewest_57 : decode cX10_fewest 57 = .ok (.ifCond .eq 7, 3) := by decide +kernel
theorem dX10_fewest_60 : decode cX10_fewest 60 = .ok (.iconst 1, 1) := by decide +kernel
theorem dX10_fewest_61 : decode cX10_fewest 61 = .ok (.goto 4, 3) := by decide +kernel
theorem dX10_fewest_64 : decode cX10_fewest 64 = .ok (.iconst 0, 1) := by decide +kernel
theorem dX10_fewest_65 : decode cX10_fewest 65 = .ok (.istore_n 3, 1) := by decide +kernel
theorem dX10_fewest_66 : decode cX10_fewest 66 = .ok (.iinc 4 1, 3) := by decide +kernel
theorem dX10_fewest_69 : decode cX10_fewest 69 = .ok (.goto (-39), 3) := by decide +kernel
theorem dX10_fewest_72 : decode cX10_fewest 72 = .ok (.iload_n 3, 1) := by decide +kernel
theorem dX10_fewest_73 : decode cX10_fewest 73 = .ok (.ifCond .eq 5, 3) := by decide +kernel
theorem dX10_fewest_76 : decode cX10_fewest 76 = .ok (.iload_n 2, 1) := by decide +kernel
theorem dX10_fewest_77 : decode cX10_fewest 77 = .ok (.ireturn, 1) := by decide +kernel
theorem dX10_fewest_78 : decode cX10_fewest 78 = .ok (.iinc 2 1, 3) := by decide +kernel
theorem dX10_fewest_81 : decode cX10_fewest 81 = .ok (.goto (-70), 3) := by decide +kernel
theorem dX10_fewest_84 : decode cX10_fewest 84 = .ok (.bipush (-4), 2) := by decide +kernel
theorem dX10_fewest_86 : decode cX10_fewest 86 = .ok (.ireturn, 1) := by decide +kernel
theorem dX10_turned_0 : decode cX10_turned 0 = .ok (.aload_n 0, 1) := by decide +kernel
theorem dX10_turned_1 : decode cX10_turned 1 = .ok (.iconst 1, 1) := by decide +kernel
theorem dX10_turned_2 : decode cX10_turned 2 = .ok (.putfield 179, 3) := by decide +kernel
theorem dX10_turned_5 : decode cX10_turned 5 = .ok (.aload_n 0, 1) := by decide +kernel
theorem dX10_turned_6 : decode cX10_turned 6 = .ok (.aload_n 0, 1) := by decide +kernel
theorem dX10_turned_7 : decode cX10_turned 7 = .ok (.getfield 13, 3) := by decide +kernel
theorem dX10_turned_10 : decode cX10_turned 10 = .ok (.invokevirtual 235, 3) := by decide +kernel
theorem dX10_turned_13 : decode cX10_turned 13 = .ok (.istore_n 1, 1) := by decide +kernel
theorem dX10_turned_14 : decode cX10_turned 14 = .ok (.aload_n 0, 1) := by decide +kernel
theorem dX10_turned_15 : decode cX10_turned 15 = .ok (.iconst 0, 1) := by decide +kernel
theorem dX10_turned_16 : decode cX10_turned 16 = .ok (.putfield 179, 3) := by decide +kernel
theorem dX10_turned_19 : decode cX10_turned 19 = .ok (.iload_n 1, 1) := by decide +kernel
theorem dX10_turned_20 : decode cX10_turned 20 = .ok (.ireturn, 1) := by decide +kernel
theorem dX10_left_0 : decode cX10_left 0 = .ok (.aload_n 0, 1) := by decide +kernel
theorem dX10_left_1 : decode cX10_left 1 = .ok (.iload_n 1, 1) := by decide +kernel
theorem dX10_left_2 : decode cX10_left 2 = .ok (.invokevirtual 193, 3) := by decide +kernel
theorem dX10_left_5 : decode cX10_left 5 = .ok (.ifCond .eq 22, 3) := by decide +kernel
theorem dX10_left_8 : decode cX10_left 8 = .ok (.iload_n 2, 1) := by decide +kernel
theorem dX10_left_9 : decode cX10_left 9 = .ok (.invokestatic 196, 3) := by decide +kernel
theorem dX10_left_12 : decode cX10_left 12 = .ok (.ifCond .eq 15, 3) := by decide +kernel
theorem dX10_left_15 : decode cX10_left 15 = .ok (.iload_n 3, 1) := by decide +kernel
theorem dX10_left_16 : decode cX10_left 16 = .ok (.i2l, 1) := by decide +kernel
theorem dX10_left_17 : decode cX10_left 17 = .ok (.lconst 0, 1) := by decide +kernel
theorem dX10_left_18 : decode cX10_left 18 = .ok (.ldc2_w 133, 3) := by decide +kernel
theorem dX10_left_21 : decode cX10_left 21 = .ok (.invokestatic 101, 3) := by decide +kernel
theorem dX10_left_24 : decode cX10_left 24 = .ok (.ifCond .ne 5, 3) := by decide +kernel
theorem dX10_left_27 : decode cX10_left 27 = .ok (.iconst (-1), 1) := by decide +kernel
theorem dX10_left_28 : decode cX10_left 28 = .ok (.ireturn, 1) := by decide +kernel
theorem dX10_left_29 : decode cX10_left 29 = .ok (.aload_n 0, 1) := by decide +kernel
theorem dX10_left_30 : decode cX10_left 30 = .ok (.getfield 173, 3) := by decide +kernel
theorem dX10_left_33 : decode cX10_left 33 = .ok (.bipush 6, 2) := by decide +kernel
theorem dX10_left_35 : decode cX10_left 35 = .ok (.if_icmp .ne 6, 3) := by decide +kernel
theorem dX10_left_38 : decode cX10_left 38 = .ok (.bipush (-3), 2) := by decide +kernel
theorem dX10_left_40 : decode cX10_left 40 = .ok (.ireturn, 1) := by decide +kernel
theorem dX10_left_41 : decode cX10_left 41 = .ok (.aload_n 0, 1) := by decide +kernel
theorem dX10_left_42 : decode cX10_left 42 = .ok (.getfield 89, 3) := by decide +kernel
theorem dX10_left_45 : decode cX10_left 45 = .ok (.iconst 3, 1) := by decide +kernel
theorem dX10_left_46 : decode cX10_left 46 = .ok (.aload_n 0, 1) := by decide +kernel
theorem dX10_left_47 : decode cX10_left 47 = .ok (.getfield 173, 3) := by decide +kernel
theorem dX10_left_50 : decode cX10_left 50 = .ok (.imul, 1) := by decide +kernel
theorem dX10_left_51 : decode cX10_left 51 = .ok (.iload_n 1, 1) := by decide +kernel
theorem dX10_left_52 : decode cX10_left 52 = .ok (.iastore, 1) := by decide +kernel
theorem dX10_left_53 : decode cX10_left 53 = .ok (.aload_n 0, 1) := by decide +kernel
theorem dX10_left_54 : decode cX10_left 54 = .ok (.getfield 89, 3) := by decide +kernel
theorem dX10_left_57 : decode cX10_left 57 = .ok (.iconst 3, 1) := by decide +kernel
theorem dX10_left_58 : decode cX10_left 58 = .ok (.aload_n 0, 1) := by decide +kernel
theorem dX10_left_59 : decode cX10_left 59 = .ok (.getfield 173, 3) := by decide +kernel
theorem dX10_left_62 : decode cX10_left 62 = .ok (.imul, 1) := by decide +kernel
theorem dX10_left_63 : decode cX10_left 63 = .ok (.iconst 1, 1) := by decide +kernel
theorem dX10_left_64 : decode cX10_left 64 = .ok (.iadd, 1) := by decide +kernel
theorem dX10_left_65 : decode cX10_left 65 = .ok (.iload_n 2, 1) := by decide +kernel
theorem dX10_left_66 : decode cX10_left 66 = .ok (.iastore, 1) := by decide +kernel
theorem dX10_left_67 : decode cX10_left 67 = .ok (.aload_n 0, 1) := by decide +kernel
theorem dX10_left_68 : decode cX10_left 68 = .ok (.getfield 89, 3) := by decide +kernel
theorem dX10_left_71 : decode cX10_left 71 = .ok (.iconst 3, 1) := by decide +kernel
theorem dX10_left_72 : decode cX10_left 72 = .ok (.aload_n 0, 1) := by decide +kernel
theorem dX10_left_73 : decode cX10_left 73 = .ok (.getfield 173, 3) := by decide +kernel
theorem dX10_left_76 : decode cX10_left 76 = .ok (.imul, 1) := by decide +kernel
theorem dX10_left_77 : decode cX10_left 77 = .ok (.iconst 2, 1) := by decide +kernel
theorem dX10_left_78 : decode cX10_left 78 = .ok (.iadd, 1) := by decide +kernel
theorem dX10_left_79 : decode cX10_left 79 = .ok (.iload_n 3, 1) := by decide +kernel
theorem dX10_left_80 : decode cX10_left 80 = .ok (.iastore, 1) := by decide +kernel
theorem dX10_left_81 : decode cX10_left 81 = .ok (.aload_n 0, 1) := by decide +kernel
theorem dX10_left_82 : decode cX10_left 82 = .ok (.dup, 1) := by decide +kernel
theorem dX10_left_83 : decode cX10_left 83 = .ok (.getfield 173, 3) := by decide +kernel
theorem dX10_left_86 : decode cX10_left 86 = .ok (.iconst 1, 1) := by decide +kernel
theorem dX10_left_87 : decode cX10_left 87 = .ok (.iadd, 1) := by decide +kernel
theorem dX10_left_88 : decode cX10_left 88 = .ok (.putfield 173, 3) := by decide +kernel
theorem dX10_left_91 : decode cX10_left 91 = .ok (.aload_n 0, 1) := by decide +kernel
theorem dX10_left_92 : decode cX10_left 92 = .ok (.getfield 173, 3) := by decide +kernel
theorem dX10_left_95 : decode cX10_left 95 = .ok (.ireturn, 1) := by decide +kernel
theorem dX10_sweep_0 : decode cX10_sweep 0 = .ok (.aload_n 0, 1) := by decide +kernel
theorem dX10_sweep_1 : decode cX10_sweep 1 = .ok (.getfield 173, 3) := by decide +kernel
theorem dX10_sweep_4 : decode cX10_sweep 4 = .ok (.istore_n 1, 1) := by decide +kernel
theorem dX10_sweep_5 : decode cX10_sweep 5 = .ok (.aload_n 0, 1) := by decide +kernel
theorem dX10_sweep_6 : decode cX10_sweep 6 = .ok (.iconst 0, 1) := by decide +kernel
theorem dX10_sweep_7 : decode cX10_sweep 7 = .ok (.putfield 173, 3) := by decide +kernel
theorem dX10_sweep_10 : decode cX10_sweep 10 = .ok (.iload_n 1, 1) := by decide +kernel
theorem dX10_sweep_11 : decode cX10_sweep 11 = .ok (.ireturn, 1) := by decide +kernel
theorem dX10_sleptBy_0 : decode cX10_sleptBy 0 = .ok (.iconst 0, 1) := by decide +kernel
theorem dX10_sleptBy_1 : decode cX10_sleptBy 1 = .ok (.istore_n 2, 1) := by decide +kernel
theorem dX10_sleptBy_2 : decode cX10_sleptBy 2 = .ok (.iconst 0, 1) := by decide +kernel
theorem dX10_sleptBy_3 : decode cX10_sleptBy 3 = .ok (.istore_n 3, 1) := by decide +kernel
theorem dX10_sleptBy_4 : decode cX10_sleptBy 4 = .ok (.iload_n 3, 1) := by decide +kernel
theorem dX10_sleptBy_5 : decode cX10_sleptBy 5 = .ok (.aload_n 0, 1) := by decide +kernel
theorem dX10_sleptBy_6 : decode cX10_sleptBy 6 = .ok (.getfield 29, 3) := by decide +kernel
theorem dX10_sleptBy_9 : decode cX10_sleptBy 9 = .ok (.if_icmp .ge 89, 3) := by decide +kernel
theorem dX10_sleptBy_12 : decode cX10_sleptBy 12 = .ok (.aload_n 0, 1) := by decide +kernel
theorem dX10_sleptBy_13 : decode cX10_sleptBy 13 = .ok (.getfield 38, 3) := by decide +kernel
theorem dX10_sleptBy_16 : decode cX10_sleptBy 16 = .ok (.bipush 14, 2) := by decide +kernel
theorem dX10_sleptBy_18 : decode cX10_sleptBy 18 = .ok (.iload_n 3, 1) := by decide +kernel
theorem dX10_sleptBy_19 : decode cX10_sleptBy 19 = .ok (.iadd, 1) := by decide +kernel
theorem dX10_sleptBy_20 : decode cX10_sleptBy 20 = .ok (.iaload, 1) := by decide +kernel
theorem dX10_sleptBy_21 : decode cX10_sleptBy 21 = .ok (.aload_n 0, 1) := by decide +kernel
theorem dX10_sleptBy_22 : decode cX10_sleptBy 22 = .ok (.getfield 89, 3) := by decide +kernel
theorem dX10_sleptBy_25 : decode cX10_sleptBy 25 = .ok (.iconst 3, 1) := by decide +kernel
theorem dX10_sleptBy_26 : decode cX10_sleptBy 26 = .ok (.iload_n 1, 1) := by decide +kernel
theorem dX10_sleptBy_27 : decode cX10_sleptBy 27 = .ok (.imul, 1) := by decide +kernel
theorem dX10_sleptBy_28 : decode cX10_sleptBy 28 = .ok (.iconst 1, 1) := by decide +kernel
theorem dX10_sleptBy_29 : decode cX10_sleptBy 29 = .ok (.iadd, 1) := by decide +kernel
theorem dX10_sleptBy_30 : decode cX10_sleptBy 30 = .ok (.iaload, 1) := by decide +kernel
theorem dX10_sleptBy_31 : decode cX10_sleptBy 31 = .ok (.if_icmp .gt 43, 3) := by decide +kernel
theorem dX10_sleptBy_34 : decode cX10_sleptBy 34 = .ok (.aload_n 0, 1) := by decide +kernel
theorem dX10_sleptBy_35 : decode cX10_sleptBy 35 = .ok (.iload_n 3, 1) := by decide +kernel
theorem dX10_sleptBy_36 : decode cX10_sleptBy 36 = .ok (.aload_n 0, 1) := by decide +kernel
theorem dX10_sleptBy_37 : decode cX10_sleptBy 37 = .ok (.getfield 89, 3) := by decide +kernel
theorem dX10_sleptBy_40 : decode cX10_sleptBy 40 = .ok (.iconst 3, 1) := by decide +kernel
theorem dX10_sleptBy_41 : decode cX10_sleptBy 41 = .ok (.iload_n 1, 1) := by decide +kernel
theorem dX10_sleptBy_42 : decode cX10_sleptBy 42 = .ok (.imul, 1) := by decide +kernel
theorem dX10_sleptBy_43 : decode cX10_sleptBy 43 = .ok (.iaload, 1) := by decide +kernel
theorem dX10_sleptBy_44 : decode cX10_sleptBy 44 = .ok (.aload_n 0, 1) := by decide +kernel
theorem dX10_sleptBy_45 : decode cX10_sleptBy 45 = .ok (.getfield 89, 3) := by decide +kernel
theorem dX10_sleptBy_48 : decode cX10_sleptBy 48 = .ok (.iconst 3, 1) := by decide +kernel
theorem dX10_sleptBy_49 : decode cX10_sleptBy 49 = .ok (.iload_n 1, 1) := by decide +kernel
theorem dX10_sleptBy_50 : decode cX10_sleptBy 50 = .ok (.imul, 1) := by decide +kernel
theorem dX10_sleptBy_51 : decode cX10_sleptBy 51 = .ok (.iconst 1, 1) := by decide +kernel
theorem dX10_sleptBy_52 : decode cX10_sleptBy 52 = .ok (.iadd, 1) := by decide +kernel
theorem dX10_sleptBy_53 : decode cX10_sleptBy 53 = .ok (.iaload, 1) := by decide +kernel
theorem dX10_sleptBy_54 : decode cX10_sleptBy 54 = .ok (.invokevirtual 212, 3) := by decide +kernel
theorem dX10_sleptBy_57 : decode cX10_sleptBy 57 = .ok (.aload_n 0, 1) := by decide +kernel
theorem dX10_sleptBy_58 : decode cX10_sleptBy 58 = .ok (.getfield 89, 3) := by decide +kernel
theorem dX10_sleptBy_61 : decode cX10_sleptBy 61 = .ok (.iconst 3, 1) := by decide +kernel
theorem dX10_sleptBy_62 : decode cX10_sleptBy 62 = .ok (.iload_n 1, 1) := by decide +kernel
theorem dX10_sleptBy_63 : decode cX10_sleptBy 63 = .ok (.imul, 1) := by decide +kernel
