theorem dX9_looksAtRow_22 : decode cX9_looksAtRow 22 = .ok (.iload_n 1, 1) := by decide +kernel
theorem dX9_looksAtRow_23 : decode cX9_looksAtRow 23 = .ok (.aload_n 0, 1) := by decide +kernel
theorem dX9_looksAtRow_24 : decode cX9_looksAtRow 24 = .ok (.getfield 56, 3) := by decide +kernel
theorem dX9_looksAtRow_27 : decode cX9_looksAtRow 27 = .ok (.iload_n 1, 1) := by decide +kernel
theorem dX9_looksAtRow_28 : decode cX9_looksAtRow 28 = .ok (.iaload, 1) := by decide +kernel
theorem dX9_looksAtRow_29 : decode cX9_looksAtRow 29 = .ok (.iastore, 1) := by decide +kernel
theorem dX9_looksAtRow_30 : decode cX9_looksAtRow 30 = .ok (.iinc 1 1, 3) := by decide +kernel
theorem dX9_looksAtRow_33 : decode cX9_looksAtRow 33 = .ok (.goto (-23), 3) := by decide +kernel
theorem dX9_looksAtRow_36 : decode cX9_looksAtRow 36 = .ok (.aload_n 0, 1) := by decide +kernel
theorem dX9_looksAtRow_37 : decode cX9_looksAtRow 37 = .ok (.invokevirtual 187, 3) := by decide +kernel
theorem dX9_looksAtRow_40 : decode cX9_looksAtRow 40 = .ok (.return_, 1) := by decide +kernel
theorem dX9_ask_0 : decode cX9_ask 0 = .ok (.iload_n 1, 1) := by decide +kernel
theorem dX9_ask_1 : decode cX9_ask 1 = .ok (.invokestatic 118, 3) := by decide +kernel
theorem dX9_ask_4 : decode cX9_ask 4 = .ok (.ifCond .eq 26, 3) := by decide +kernel
theorem dX9_ask_7 : decode cX9_ask 7 = .ok (.iload_n 2, 1) := by decide +kernel
theorem dX9_ask_8 : decode cX9_ask 8 = .ok (.iconst 0, 1) := by decide +kernel
theorem dX9_ask_9 : decode cX9_ask 9 = .ok (.aload_n 0, 1) := by decide +kernel
theorem dX9_ask_10 : decode cX9_ask 10 = .ok (.getfield 178, 3) := by decide +kernel
theorem dX9_ask_13 : decode cX9_ask 13 = .ok (.iconst 1, 1) := by decide +kernel
theorem dX9_ask_14 : decode cX9_ask 14 = .ok (.isub, 1) := by decide +kernel
theorem dX9_ask_15 : decode cX9_ask 15 = .ok (.invokestatic 114, 3) := by decide +kernel
theorem dX9_ask_18 : decode cX9_ask 18 = .ok (.ifCond .eq 12, 3) := by decide +kernel
theorem dX9_ask_21 : decode cX9_ask 21 = .ok (.iload_n 3, 1) := by decide +kernel
theorem dX9_ask_22 : decode cX9_ask 22 = .ok (.iconst 1, 1) := by decide +kernel
theorem dX9_ask_23 : decode cX9_ask 23 = .ok (.iconst 4, 1) := by decide +kernel
theorem dX9_ask_24 : decode cX9_ask 24 = .ok (.invokestatic 114, 3) := by decide +kernel
theorem dX9_ask_27 : decode cX9_ask 27 = .ok (.ifCond .ne 6, 3) := by decide +kernel
theorem dX9_ask_30 : decode cX9_ask 30 = .ok (.bipush (-2), 2) := by decide +kernel
theorem dX9_ask_32 : decode cX9_ask 32 = .ok (.ireturn, 1) := by decide +kernel
theorem dX9_ask_33 : decode cX9_ask 33 = .ok (.aload_n 0, 1) := by decide +kernel
theorem dX9_ask_34 : decode cX9_ask 34 = .ok (.invokevirtual 199, 3) := by decide +kernel
theorem dX9_ask_37 : decode cX9_ask 37 = .ok (.aload_n 0, 1) := by decide +kernel
theorem dX9_ask_38 : decode cX9_ask 38 = .ok (.getfield 69, 3) := by decide +kernel
theorem dX9_ask_41 : decode cX9_ask 41 = .ok (.iload_n 1, 1) := by decide +kernel
theorem dX9_ask_42 : decode cX9_ask 42 = .ok (.iload_n 2, 1) := by decide +kernel
theorem dX9_ask_43 : decode cX9_ask 43 = .ok (.iload_n 3, 1) := by decide +kernel
theorem dX9_ask_44 : decode cX9_ask 44 = .ok (.invokestatic 190, 3) := by decide +kernel
theorem dX9_ask_47 : decode cX9_ask 47 = .ok (.iaload, 1) := by decide +kernel
theorem dX9_ask_48 : decode cX9_ask 48 = .ok (.ireturn, 1) := by decide +kernel
theorem dX9_gainOf_0 : decode cX9_gainOf 0 = .ok (.aload_n 0, 1) := by decide +kernel
theorem dX9_gainOf_1 : decode cX9_gainOf 1 = .ok (.getfield 65, 3) := by decide +kernel
theorem dX9_gainOf_4 : decode cX9_gainOf 4 = .ok (.iload_n 1, 1) := by decide +kernel
theorem dX9_gainOf_5 : decode cX9_gainOf 5 = .ok (.iconst 0, 1) := by decide +kernel
theorem dX9_gainOf_6 : decode cX9_gainOf 6 = .ok (.iload_n 2, 1) := by decide +kernel
theorem dX9_gainOf_7 : decode cX9_gainOf 7 = .ok (.invokestatic 190, 3) := by decide +kernel
theorem dX9_gainOf_10 : decode cX9_gainOf 10 = .ok (.laload, 1) := by decide +kernel
theorem dX9_gainOf_11 : decode cX9_gainOf 11 = .ok (.iload_n 2, 1) := by decide +kernel
theorem dX9_gainOf_12 : decode cX9_gainOf 12 = .ok (.aload_n 0, 1) := by decide +kernel
theorem dX9_gainOf_13 : decode cX9_gainOf 13 = .ok (.getfield 7, 3) := by decide +kernel
theorem dX9_gainOf_16 : decode cX9_gainOf 16 = .ok (.iload_n 1, 1) := by decide +kernel
theorem dX9_gainOf_17 : decode cX9_gainOf 17 = .ok (.iaload, 1) := by decide +kernel
theorem dX9_gainOf_18 : decode cX9_gainOf 18 = .ok (.imul, 1) := by decide +kernel
theorem dX9_gainOf_19 : decode cX9_gainOf 19 = .ok (.i2l, 1) := by decide +kernel
theorem dX9_gainOf_20 : decode cX9_gainOf 20 = .ok (.aload_n 0, 1) := by decide +kernel
theorem dX9_gainOf_21 : decode cX9_gainOf 21 = .ok (.getfield 184, 3) := by decide +kernel
theorem dX9_gainOf_24 : decode cX9_gainOf 24 = .ok (.invokestatic 193, 3) := by decide +kernel
theorem dX9_gainOf_27 : decode cX9_gainOf 27 = .ok (.lmul, 1) := by decide +kernel
theorem dX9_gainOf_28 : decode cX9_gainOf 28 = .ok (.lsub, 1) := by decide +kernel
theorem dX9_gainOf_29 : decode cX9_gainOf 29 = .ok (.lreturn, 1) := by decide +kernel
theorem dX9_packs_0 : decode cX9_packs 0 = .ok (.aload_n 0, 1) := by decide +kernel
theorem dX9_packs_1 : decode cX9_packs 1 = .ok (.ldc2_w 226, 3) := by decide +kernel
theorem dX9_packs_4 : decode cX9_packs 4 = .ok (.putfield 228, 3) := by decide +kernel
theorem dX9_packs_7 : decode cX9_packs 7 = .ok (.iconst 0, 1) := by decide +kernel
theorem dX9_packs_8 : decode cX9_packs 8 = .ok (.istore_n 2, 1) := by decide +kernel
theorem dX9_packs_9 : decode cX9_packs 9 = .ok (.iconst 0, 1) := by decide +kernel
theorem dX9_packs_10 : decode cX9_packs 10 = .ok (.istore_n 3, 1) := by decide +kernel
theorem dX9_packs_11 : decode cX9_packs 11 = .ok (.iload_n 3, 1) := by decide +kernel
theorem dX9_packs_12 : decode cX9_packs 12 = .ok (.sipush 15625, 3) := by decide +kernel
theorem dX9_packs_15 : decode cX9_packs 15 = .ok (.if_icmp .ge 169, 3) := by decide +kernel
theorem dX9_packs_18 : decode cX9_packs 18 = .ok (.iload_n 3, 1) := by decide +kernel
theorem dX9_packs_19 : decode cX9_packs 19 = .ok (.istore 4, 2) := by decide +kernel
theorem dX9_packs_21 : decode cX9_packs 21 = .ok (.iconst 0, 1) := by decide +kernel
theorem dX9_packs_22 : decode cX9_packs 22 = .ok (.istore 5, 2) := by decide +kernel
theorem dX9_packs_24 : decode cX9_packs 24 = .ok (.lconst 0, 1) := by decide +kernel
theorem dX9_packs_25 : decode cX9_packs 25 = .ok (.lstore 6, 2) := by decide +kernel
theorem dX9_packs_27 : decode cX9_packs 27 = .ok (.iconst 5, 1) := by decide +kernel
theorem dX9_packs_28 : decode cX9_packs 28 = .ok (.istore 8, 2) := by decide +kernel
theorem dX9_packs_30 : decode cX9_packs 30 = .ok (.iload 8, 2) := by decide +kernel
theorem dX9_packs_32 : decode cX9_packs 32 = .ok (.ifCond .lt 68, 3) := by decide +kernel
theorem dX9_packs_35 : decode cX9_packs 35 = .ok (.iload 4, 2) := by decide +kernel
theorem dX9_packs_37 : decode cX9_packs 37 = .ok (.iconst 5, 1) := by decide +kernel
theorem dX9_packs_38 : decode cX9_packs 38 = .ok (.irem, 1) := by decide +kernel
theorem dX9_packs_39 : decode cX9_packs 39 = .ok (.istore 9, 2) := by decide +kernel
theorem dX9_packs_41 : decode cX9_packs 41 = .ok (.iload 4, 2) := by decide +kernel
theorem dX9_packs_43 : decode cX9_packs 43 = .ok (.iconst 5, 1) := by decide +kernel
theorem dX9_packs_44 : decode cX9_packs 44 = .ok (.idiv, 1) := by decide +kernel
theorem dX9_packs_45 : decode cX9_packs 45 = .ok (.istore 4, 2) := by decide +kernel
theorem dX9_packs_47 : decode cX9_packs 47 = .ok (.iload 5, 2) := by decide +kernel
theorem dX9_packs_49 : decode cX9_packs 49 = .ok (.iload 9, 2) := by decide +kernel
theorem dX9_packs_51 : decode cX9_packs 51 = .ok (.aload_n 0, 1) := by decide +kernel
theorem dX9_packs_52 : decode cX9_packs 52 = .ok (.getfield 13, 3) := by decide +kernel
theorem dX9_packs_55 : decode cX9_packs 55 = .ok (.iload 8, 2) := by decide +kernel
theorem dX9_packs_57 : decode cX9_packs 57 = .ok (.iaload, 1) := by decide +kernel
theorem dX9_packs_58 : decode cX9_packs 58 = .ok (.imul, 1) := by decide +kernel
theorem dX9_packs_59 : decode cX9_packs 59 = .ok (.iload 8, 2) := by decide +kernel
theorem dX9_packs_61 : decode cX9_packs 61 = .ok (.iload_n 1, 1) := by decide +kernel
theorem dX9_packs_62 : decode cX9_packs 62 = .ok (.if_icmp .ne 14, 3) := by decide +kernel
theorem dX9_packs_65 : decode cX9_packs 65 = .ok (.iload 9, 2) := by decide +kernel
theorem dX9_packs_67 : decode cX9_packs 67 = .ok (.ifCond .le 9, 3) := by decide +kernel
theorem dX9_packs_70 : decode cX9_packs 70 = .ok (.sipush 1000, 3) := by decide +kernel
theorem dX9_packs_73 : decode cX9_packs 73 = .ok (.goto 4, 3) := by decide +kernel
theorem dX9_packs_76 : decode cX9_packs 76 = .ok (.iconst 0, 1) := by decide +kernel
theorem dX9_packs_77 : decode cX9_packs 77 = .ok (.iadd, 1) := by decide +kernel
theorem dX9_packs_78 : decode cX9_packs 78 = .ok (.iadd, 1) := by decide +kernel
theorem dX9_packs_79 : decode cX9_packs 79 = .ok (.istore 5, 2) := by decide +kernel
theorem dX9_packs_81 : decode cX9_packs 81 = .ok (.lload 6, 2) := by decide +kernel
theorem dX9_packs_83 : decode cX9_packs 83 = .ok (.aload_n 0, 1) := by decide +kernel
theorem dX9_packs_84 : decode cX9_packs 84 = .ok (.iload 8, 2) := by decide +kernel
theorem dX9_packs_86 : decode cX9_packs 86 = .ok (.iload 9, 2) := by decide +kernel
theorem dX9_packs_88 : decode cX9_packs 88 = .ok (.invokevirtual 218, 3) := by decide +kernel
theorem dX9_packs_91 : decode cX9_packs 91 = .ok (.ladd, 1) := by decide +kernel
theorem dX9_packs_92 : decode cX9_packs 92 = .ok (.lstore 6, 2) := by decide +kernel
theorem dX9_packs_94 : decode cX9_packs 94 = .ok (.iinc 8 (-1), 3) := by decide +kernel
theorem dX9_packs_97 : decode cX9_packs 97 = .ok (.goto (-67), 3) := by decide +kernel
theorem dX9_packs_100 : decode cX9_packs 100 = .ok (.iload 5, 2) := by decide +kernel
theorem dX9_packs_102 : decode cX9_packs 102 = .ok (.aload_n 0, 1) := by decide +kernel
theorem dX9_packs_103 : decode cX9_packs 103 = .ok (.getfield 32, 3) := by decide +kernel
theorem dX9_packs_106 : decode cX9_packs 106 = .ok (.if_icmp .gt 72, 3) := by decide +kernel
theorem dX9_packs_109 : decode cX9_packs 109 = .ok (.lload 6, 2) := by decide +kernel
theorem dX9_packs_111 : decode cX9_packs 111 = .ok (.aload_n 0, 1) := by decide +kernel
theorem dX9_packs_112 : decode cX9_packs 112 = .ok (.getfield 228, 3) := by decide +kernel
theorem dX9_packs_115 : decode cX9_packs 115 = .ok (.lcmp, 1) := by decide +kernel
theorem dX9_packs_116 : decode cX9_packs 116 = .ok (.ifCond .gt 19, 3) := by decide +kernel
theorem dX9_packs_119 : decode cX9_packs 119 = .ok (.lload 6, 2) := by decide +kernel
theorem dX9_packs_121 : decode cX9_packs 121 = .ok (.aload_n 0, 1) := by decide +kernel
theorem dX9_packs_122 : decode cX9_packs 122 = .ok (.getfield 228, 3) := by decide +kernel
theorem dX9_packs_125 : decode cX9_packs 125 = .ok (.lcmp, 1) := by decide +kernel
theorem dX9_packs_126 : decode cX9_packs 126 = .ok (.ifCond .ne 52, 3) := by decide +kernel
theorem dX9_packs_129 : decode cX9_packs 129 = .ok (.iload 5, 2) := by decide +kernel
theorem dX9_packs_131 : decode cX9_packs 131 = .ok (.iload_n 2, 1) := by decide +kernel
theorem dX9_packs_132 : decode cX9_packs 132 = .ok (.if_icmp .ge 46, 3) := by decide +kernel
theorem dX9_packs_135 : decode cX9_packs 135 = .ok (.aload_n 0, 1) := by decide +kernel
theorem dX9_packs_136 : decode cX9_packs 136 = .ok (.lload 6, 2) := by decide +kernel
theorem dX9_packs_138 : decode cX9_packs 138 = .ok (.putfield 228, 3) := by decide +kernel
theorem dX9_packs_141 : decode cX9_packs 141 = .ok (.iload 5, 2) := by decide +kernel
theorem dX9_packs_143 : decode cX9_packs 143 = .ok (.istore_n 2, 1) := by decide +kernel
theorem dX9_packs_144 : decode cX9_packs 144 = .ok (.iload_n 3, 1) := by decide +kernel
theorem dX9_packs_145 : decode cX9_packs 145 = .ok (.istore 4, 2) := by decide +kernel
theorem dX9_packs_147 : decode cX9_packs 147 = .ok (.iconst 5, 1) := by decide +kernel
theorem dX9_packs_148 : decode cX9_packs 148 = .ok (.istore 8, 2) := by decide +kernel
theorem dX9_packs_150 : decode cX9_packs 150 = .ok (.iload 8, 2) := by decide +kernel
theorem dX9_packs_152 : decode cX9_packs 152 = .ok (.ifCond .lt 26, 3) := by decide +kernel
theorem dX9_packs_155 : decode cX9_packs 155 = .ok (.aload_n 0, 1) := by decide +kernel
theorem dX9_packs_156 : decode cX9_packs 156 = .ok (.getfield 75, 3) := by decide +kernel
theorem dX9_packs_159 : decode cX9_packs 159 = .ok (.iload 8, 2) := by decide +kernel
theorem dX9_packs_161 : decode cX9_packs 161 = .ok (.iload 4, 2) := by decide +kernel
theorem dX9_packs_163 : decode cX9_packs 163 = .ok (.iconst 5, 1) := by decide +kernel
theorem dX9_packs_164 : decode cX9_packs 164 = .ok (.irem, 1) := by decide +kernel
theorem dX9_packs_165 : decode cX9_packs 165 = .ok (.iastore, 1) := by decide +kernel
theorem dX9_packs_166 : decode cX9_packs 166 = .ok (.iload 4, 2) := by decide +kernel
theorem dX9_packs_168 : decode cX9_packs 168 = .ok (.iconst 5, 1) := by decide +kernel
theorem dX9_packs_169 : decode cX9_packs 169 = .ok (.idiv, 1) := by decide +kernel
theorem dX9_packs_170 : decode cX9_packs 170 = .ok (.istore 4, 2) := by decide +kernel
theorem dX9_packs_172 : decode cX9_packs 172 = .ok (.iinc 8 (-1), 3) := by decide +kernel
theorem dX9_packs_175 : decode cX9_packs 175 = .ok (.goto (-25), 3) := by decide +kernel
theorem dX9_packs_178 : decode cX9_packs 178 = .ok (.iinc 3 1, 3) := by decide +kernel
theorem dX9_packs_181 : decode cX9_packs 181 = .ok (.goto (-170), 3) := by decide +kernel
theorem dX9_packs_184 : decode cX9_packs 184 = .ok (.return_, 1) := by decide +kernel
theorem dX9_weightOf_0 : decode cX9_weightOf 0 = .ok (.iload_n 2, 1) := by decide +kernel
theorem dX9_weightOf_1 : decode cX9_weightOf 1 = .ok (.aload_n 0, 1) := by decide +kernel
theorem dX9_weightOf_2 : decode cX9_weightOf 2 = .ok (.getfield 13, 3) := by decide +kernel
theorem dX9_weightOf_5 : decode cX9_weightOf 5 = .ok (.iload_n 1, 1) := by decide +kernel
theorem dX9_weightOf_6 : decode cX9_weightOf 6 = .ok (.iaload, 1) := by decide +kernel
theorem dX9_weightOf_7 : decode cX9_weightOf 7 = .ok (.imul, 1) := by decide +kernel
theorem dX9_weightOf_8 : decode cX9_weightOf 8 = .ok (.ireturn, 1) := by decide +kernel
theorem dX9_bestNow_0 : decode cX9_bestNow 0 = .ok (.aload_n 0, 1) := by decide +kernel
theorem dX9_bestNow_1 : decode cX9_bestNow 1 = .ok (.invokevirtual 199, 3) := by decide +kernel
theorem dX9_bestNow_4 : decode cX9_bestNow 4 = .ok (.aload_n 0, 1) := by decide +kernel
theorem dX9_bestNow_5 : decode cX9_bestNow 5 = .ok (.iconst (-1), 1) := by decide +kernel
theorem dX9_bestNow_6 : decode cX9_bestNow 6 = .ok (.invokevirtual 232, 3) := by decide +kernel
theorem dX9_bestNow_9 : decode cX9_bestNow 9 = .ok (.iload_n 1, 1) := by decide +kernel
theorem dX9_bestNow_10 : decode cX9_bestNow 10 = .ok (.iconst (-1), 1) := by decide +kernel
theorem dX9_bestNow_11 : decode cX9_bestNow 11 = .ok (.if_icmp .eq 10, 3) := by decide +kernel
theorem dX9_bestNow_14 : decode cX9_bestNow 14 = .ok (.aload_n 0, 1) := by decide +kernel
theorem dX9_bestNow_15 : decode cX9_bestNow 15 = .ok (.getfield 75, 3) := by decide +kernel
theorem dX9_bestNow_18 : decode cX9_bestNow 18 = .ok (.iload_n 1, 1) := by decide +kernel
theorem dX9_bestNow_19 : decode cX9_bestNow 19 = .ok (.iaload, 1) := by decide +kernel
theorem dX9_bestNow_20 : decode cX9_bestNow 20 = .ok (.ireturn, 1) := by decide +kernel
theorem dX9_bestNow_21 : decode cX9_bestNow 21 = .ok (.iconst 0, 1) := by decide +kernel
theorem dX9_bestNow_22 : decode cX9_bestNow 22 = .ok (.istore_n 2, 1) := by decide +kernel
theorem dX9_bestNow_23 : decode cX9_bestNow 23 = .ok (.iconst 0, 1) := by decide +kernel
theorem dX9_bestNow_24 : decode cX9_bestNow 24 = .ok (.istore_n 3, 1) := by decide +kernel
theorem dX9_bestNow_25 : decode cX9_bestNow 25 = .ok (.iload_n 3, 1) := by decide +kernel
theorem dX9_bestNow_26 : decode cX9_bestNow 26 = .ok (.bipush 6, 2) := by decide +kernel
theorem dX9_bestNow_28 : decode cX9_bestNow 28 = .ok (.if_icmp .ge 23, 3) := by decide +kernel
theorem dX9_bestNow_31 : decode cX9_bestNow 31 = .ok (.iload_n 2, 1) := by decide +kernel
theorem dX9_bestNow_32 : decode cX9_bestNow 32 = .ok (.aload_n 0, 1) := by decide +kernel
theorem dX9_bestNow_33 : decode cX9_bestNow 33 = .ok (.iload_n 3, 1) := by decide +kernel
theorem dX9_bestNow_34 : decode cX9_bestNow 34 = .ok (.aload_n 0, 1) := by decide +kernel
theorem dX9_bestNow_35 : decode cX9_bestNow 35 = .ok (.getfield 75, 3) := by decide +kernel
theorem dX9_bestNow_38 : decode cX9_bestNow 38 = .ok (.iload_n 3, 1) := by decide +kernel
theorem dX9_bestNow_39 : decode cX9_bestNow 39 = .ok (.iaload, 1) := by decide +kernel
theorem dX9_bestNow_40 : decode cX9_bestNow 40 = .ok (.invokevirtual 235, 3) := by decide +kernel
theorem dX9_bestNow_43 : decode cX9_bestNow 43 = .ok (.iadd, 1) := by decide +kernel
theorem dX9_bestNow_44 : decode cX9_bestNow 44 = .ok (.istore_n 2, 1) := by decide +kernel
theorem dX9_bestNow_45 : decode cX9_bestNow 45 = .ok (.iinc 3 1, 3) := by decide +kernel
theorem dX9_bestNow_48 : decode cX9_bestNow 48 = .ok (.goto (-23), 3) := by decide +kernel
theorem dX9_bestNow_51 : decode cX9_bestNow 51 = .ok (.iload_n 2, 1) := by decide +kernel
theorem dX9_bestNow_52 : decode cX9_bestNow 52 = .ok (.ireturn, 1) := by decide +kernel
theorem dX9_best_0 : decode cX9_best 0 = .ok (.iload_n 1, 1) := by decide +kernel
theorem dX9_best_1 : decode cX9_best 1 = .ok (.iconst (-1), 1) := by decide +kernel
theorem dX9_best_2 : decode cX9_best 2 = .ok (.if_icmp .eq 10, 3) := by decide +kernel
theorem dX9_best_5 : decode cX9_best 5 = .ok (.iload_n 1, 1) := by decide +kernel
theorem dX9_best_6 : decode cX9_best 6 = .ok (.invokestatic 118, 3) := by decide +kernel
theorem dX9_best_9 : decode cX9_best 9 = .ok (.ifCond .eq 11, 3) := by decide +kernel
theorem dX9_best_12 : decode cX9_best 12 = .ok (.aload_n 0, 1) := by decide +kernel
theorem dX9_best_13 : decode cX9_best 13 = .ok (.iload_n 1, 1) := by decide +kernel
theorem dX9_best_14 : decode cX9_best 14 = .ok (.invokevirtual 238, 3) := by decide +kernel
theorem dX9_best_17 : decode cX9_best 17 = .ok (.goto 5, 3) := by decide +kernel
theorem dX9_best_20 : decode cX9_best 20 = .ok (.bipush (-2), 2) := by decide +kernel
theorem dX9_best_22 : decode cX9_best 22 = .ok (.ireturn, 1) := by decide +kernel
theorem dX9_gathers_0 : decode cX9_gathers 0 = .ok (.aload_n 0, 1) := by decide +kernel
theorem dX9_gathers_1 : decode cX9_gathers 1 = .ok (.iconst 0, 1) := by decide +kernel
theorem dX9_gathers_2 : decode cX9_gathers 2 = .ok (.putfield 256, 3) := by decide +kernel
theorem dX9_gathers_5 : decode cX9_gathers 5 = .ok (.iconst 1, 1) := by decide +kernel
theorem dX9_gathers_6 : decode cX9_gathers 6 = .ok (.istore_n 1, 1) := by decide +kernel
theorem dX9_gathers_7 : decode cX9_gathers 7 = .ok (.iload_n 1, 1) := by decide +kernel
theorem dX9_gathers_8 : decode cX9_gathers 8 = .ok (.bipush 7, 2) := by decide +kernel
theorem dX9_gathers_10 : decode cX9_gathers 10 = .ok (.if_icmp .gt 43, 3) := by decide +kernel
theorem dX9_gathers_13 : decode cX9_gathers 13 = .ok (.aload_n 0, 1) := by decide +kernel
theorem dX9_gathers_14 : decode cX9_gathers 14 = .ok (.getfield 35, 3) := by decide +kernel
theorem dX9_gathers_17 : decode cX9_gathers 17 = .ok (.iload_n 1, 1) := by decide +kernel
theorem dX9_gathers_18 : decode cX9_gathers 18 = .ok (.iconst 1, 1) := by decide +kernel
theorem dX9_gathers_19 : decode cX9_gathers 19 = .ok (.isub, 1) := by decide +kernel
theorem dX9_gathers_20 : decode cX9_gathers 20 = .ok (.ishr, 1) := by decide +kernel
theorem dX9_gathers_21 : decode cX9_gathers 21 = .ok (.iconst 1, 1) := by decide +kernel
theorem dX9_gathers_22 : decode cX9_gathers 22 = .ok (.iand, 1) := by decide +kernel
theorem dX9_gathers_23 : decode cX9_gathers 23 = .ok (.iconst 1, 1) := by decide +kernel
theorem dX9_gathers_24 : decode cX9_gathers 24 = .ok (.if_icmp .ne 23, 3) := by decide +kernel
theorem dX9_gathers_27 : decode cX9_gathers 27 = .ok (.aload_n 0, 1) := by decide +kernel
theorem dX9_gathers_28 : decode cX9_gathers 28 = .ok (.getfield 81, 3) := by decide +kernel
theorem dX9_gathers_31 : decode cX9_gathers 31 = .ok (.aload_n 0, 1) := by decide +kernel
theorem dX9_gathers_32 : decode cX9_gathers 32 = .ok (.getfield 256, 3) := by decide +kernel
theorem dX9_gathers_35 : decode cX9_gathers 35 = .ok (.iload_n 1, 1) := by decide +kernel
theorem dX9_gathers_36 : decode cX9_gathers 36 = .ok (.iastore, 1) := by decide +kernel
theorem dX9_gathers_37 : decode cX9_gathers 37 = .ok (.aload_n 0, 1) := by decide +kernel
theorem dX9_gathers_38 : decode cX9_gathers 38 = .ok (.dup, 1) := by decide +kernel
theorem dX9_gathers_39 : decode cX9_gathers 39 = .ok (.getfield 256, 3) := by decide +kernel
theorem dX9_gathers_42 : decode cX9_gathers 42 = .ok (.iconst 1, 1) := by decide +kernel
theorem dX9_gathers_43 : decode cX9_gathers 43 = .ok (.iadd, 1) := by decide +kernel
theorem dX9_gathers_44 : decode cX9_gathers 44 = .ok (.putfield 256, 3) := by decide +kernel
theorem dX9_gathers_47 : decode cX9_gathers 47 = .ok (.iinc 1 1, 3) := by decide +kernel
theorem dX9_gathers_50 : decode cX9_gathers 50 = .ok (.goto (-43), 3) := by decide +kernel
theorem dX9_gathers_53 : decode cX9_gathers 53 = .ok (.aload_n 0, 1) := by decide +kernel
theorem dX9_gathers_54 : decode cX9_gathers 54 = .ok (.getfield 256, 3) := by decide +kernel
theorem dX9_gathers_57 : decode cX9_gathers 57 = .ok (.iconst 5, 1) := by decide +kernel
theorem dX9_gathers_58 : decode cX9_gathers 58 = .ok (.if_icmp .gt 7, 3) := by decide +kernel
theorem dX9_gathers_61 : decode cX9_gathers 61 = .ok (.iconst 1, 1) := by decide +kernel
theorem dX9_gathers_62 : decode cX9_gathers 62 = .ok (.goto 4, 3) := by decide +kernel
theorem dX9_gathers_65 : decode cX9_gathers 65 = .ok (.iconst 0, 1) := by decide +kernel
theorem dX9_gathers_66 : decode cX9_gathers 66 = .ok (.ireturn, 1) := by decide +kernel
theorem dX9_lowest_0 : decode cX9_lowest 0 = .ok (.lload_n 0, 1) := by decide +kernel
theorem dX9_lowest_1 : decode cX9_lowest 1 = .ok (.lconst 0, 1) := by decide +kernel
theorem dX9_lowest_2 : decode cX9_lowest 2 = .ok (.lcmp, 1) := by decide +kernel
theorem dX9_lowest_3 : decode cX9_lowest 3 = .ok (.ifCond .ge 8, 3) := by decide +kernel
theorem dX9_lowest_6 : decode cX9_lowest 6 = .ok (.lload_n 0, 1) := by decide +kernel
theorem dX9_lowest_7 : decode cX9_lowest 7 = .ok (.lneg, 1) := by decide +kernel
theorem dX9_lowest_8 : decode cX9_lowest 8 = .ok (.goto 4, 3) := by decide +kernel
theorem dX9_lowest_11 : decode cX9_lowest 11 = .ok (.lload_n 0, 1) := by decide +kernel
theorem dX9_lowest_12 : decode cX9_lowest 12 = .ok (.lstore 5, 2) := by decide +kernel
theorem dX9_lowest_14 : decode cX9_lowest 14 = .ok (.lload_n 2, 1) := by decide +kernel
theorem dX9_lowest_15 : decode cX9_lowest 15 = .ok (.lstore 7, 2) := by decide +kernel
theorem dX9_lowest_17 : decode cX9_lowest 17 = .ok (.lload 7, 2) := by decide +kernel
theorem dX9_lowest_19 : decode cX9_lowest 19 = .ok (.lconst 0, 1) := by decide +kernel
theorem dX9_lowest_20 : decode cX9_lowest 20 = .ok (.lcmp, 1) := by decide +kernel
theorem dX9_lowest_21 : decode cX9_lowest 21 = .ok (.ifCond .eq 21, 3) := by decide +kernel
theorem dX9_lowest_24 : decode cX9_lowest 24 = .ok (.lload 5, 2) := by decide +kernel
theorem dX9_lowest_26 : decode cX9_lowest 26 = .ok (.lload 7, 2) := by decide +kernel
theorem dX9_lowest_28 : decode cX9_lowest 28 = .ok (.lrem, 1) := by decide +kernel
theorem dX9_lowest_29 : decode cX9_lowest 29 = .ok (.lstore 9, 2) := by decide +kernel
theorem dX9_lowest_31 : decode cX9_lowest 31 = .ok (.lload 7, 2) := by decide +kernel
theorem dX9_lowest_33 : decode cX9_lowest 33 = .ok (.lstore 5, 2) := by decide +kernel
theorem dX9_lowest_35 : decode cX9_lowest 35 = .ok (.lload 9, 2) := by decide +kernel
theorem dX9_lowest_37 : decode cX9_lowest 37 = .ok (.lstore 7, 2) := by decide +kernel
theorem dX9_lowest_39 : decode cX9_lowest 39 = .ok (.goto (-22), 3) := by decide +kernel
theorem dX9_lowest_42 : decode cX9_lowest 42 = .ok (.iload 4, 2) := by decide +kernel
theorem dX9_lowest_44 : decode cX9_lowest 44 = .ok (.ifCond .ne 10, 3) := by decide +kernel
theorem dX9_lowest_47 : decode cX9_lowest 47 = .ok (.lload_n 0, 1) := by decide +kernel
theorem dX9_lowest_48 : decode cX9_lowest 48 = .ok (.lload 5, 2) := by decide +kernel
theorem dX9_lowest_50 : decode cX9_lowest 50 = .ok (.ldiv, 1) := by decide +kernel
theorem dX9_lowest_51 : decode cX9_lowest 51 = .ok (.goto 7, 3) := by decide +kernel
theorem dX9_lowest_54 : decode cX9_lowest 54 = .ok (.lload_n 2, 1) := by decide +kernel
theorem dX9_lowest_55 : decode cX9_lowest 55 = .ok (.lload 5, 2) := by decide +kernel
theorem dX9_lowest_57 : decode cX9_lowest 57 = .ok (.ldiv, 1) := by decide +kernel
theorem dX9_lowest_58 : decode cX9_lowest 58 = .ok (.lreturn, 1) := by decide +kernel
theorem dX9_no_0 : decode cX9_no 0 = .ok (.ldc2_w 112, 3) := by decide +kernel
theorem dX9_no_3 : decode cX9_no 3 = .ok (.iload_n 0, 1) := by decide +kernel
theorem dX9_no_4 : decode cX9_no 4 = .ok (.i2l, 1) := by decide +kernel
theorem dX9_no_5 : decode cX9_no 5 = .ok (.lsub, 1) := by decide +kernel
theorem dX9_no_6 : decode cX9_no 6 = .ok (.lreturn, 1) := by decide +kernel
theorem dX9_fives_0 : decode cX9_fives 0 = .ok (.iconst 1, 1) := by decide +kernel
theorem dX9_fives_1 : decode cX9_fives 1 = .ok (.istore_n 1, 1) := by decide +kernel
theorem dX9_fives_2 : decode cX9_fives 2 = .ok (.iconst 0, 1) := by decide +kernel
theorem dX9_fives_3 : decode cX9_fives 3 = .ok (.istore_n 2, 1) := by decide +kernel
theorem dX9_fives_4 : decode cX9_fives 4 = .ok (.iload_n 2, 1) := by decide +kernel
theorem dX9_fives_5 : decode cX9_fives 5 = .ok (.iload_n 0, 1) := by decide +kernel
theorem dX9_fives_6 : decode cX9_fives 6 = .ok (.if_icmp .ge 13, 3) := by decide +kernel
theorem dX9_fives_9 : decode cX9_fives 9 = .ok (.iload_n 1, 1) := by decide +kernel
theorem dX9_fives_10 : decode cX9_fives 10 = .ok (.iconst 5, 1) := by decide +kernel
theorem dX9_fives_11 : decode cX9_fives 11 = .ok (.imul, 1) := by decide +kernel
theorem dX9_fives_12 : decode cX9_fives 12 = .ok (.istore_n 1, 1) := by decide +kernel
theorem dX9_fives_13 : decode cX9_fives 13 = .ok (.iinc 2 1, 3) := by decide +kernel
theorem dX9_fives_16 : decode cX9_fives 16 = .ok (.goto (-12), 3) := by decide +kernel
theorem dX9_fives_19 : decode cX9_fives 19 = .ok (.iload_n 1, 1) := by decide +kernel
theorem dX9_fives_20 : decode cX9_fives 20 = .ok (.ireturn, 1) := by decide +kernel
theorem dX9_hoursFrom_0 : decode cX9_hoursFrom 0 = .ok (.iconst 0, 1) := by decide +kernel
theorem dX9_hoursFrom_1 : decode cX9_hoursFrom 1 = .ok (.istore_n 2, 1) := by decide +kernel
theorem dX9_hoursFrom_2 : decode cX9_hoursFrom 2 = .ok (.iload_n 1, 1) := by decide +kernel
theorem dX9_hoursFrom_3 : decode cX9_hoursFrom 3 = .ok (.istore_n 3, 1) := by decide +kernel
theorem dX9_hoursFrom_4 : decode cX9_hoursFrom 4 = .ok (.iconst 0, 1) := by decide +kernel
theorem dX9_hoursFrom_5 : decode cX9_hoursFrom 5 = .ok (.istore 4, 2) := by decide +kernel
theorem dX9_hoursFrom_7 : decode cX9_hoursFrom 7 = .ok (.iload 4, 2) := by decide +kernel
theorem dX9_hoursFrom_9 : decode cX9_hoursFrom 9 = .ok (.aload_n 0, 1) := by decide +kernel
theorem dX9_hoursFrom_10 : decode cX9_hoursFrom 10 = .ok (.getfield 184, 3) := by decide +kernel
theorem dX9_hoursFrom_13 : decode cX9_hoursFrom 13 = .ok (.if_icmp .ge 37, 3) := by decide +kernel
theorem dX9_hoursFrom_16 : decode cX9_hoursFrom 16 = .ok (.iload_n 2, 1) := by decide +kernel
theorem dX9_hoursFrom_17 : decode cX9_hoursFrom 17 = .ok (.aload_n 0, 1) := by decide +kernel
theorem dX9_hoursFrom_18 : decode cX9_hoursFrom 18 = .ok (.getfield 25, 3) := by decide +kernel
theorem dX9_hoursFrom_21 : decode cX9_hoursFrom 21 = .ok (.bipush 8, 2) := by decide +kernel
theorem dX9_hoursFrom_23 : decode cX9_hoursFrom 23 = .ok (.iload_n 3, 1) := by decide +kernel
theorem dX9_hoursFrom_24 : decode cX9_hoursFrom 24 = .ok (.imul, 1) := by decide +kernel
theorem dX9_hoursFrom_25 : decode cX9_hoursFrom 25 = .ok (.aload_n 0, 1) := by decide +kernel
theorem dX9_hoursFrom_26 : decode cX9_hoursFrom 26 = .ok (.getfield 62, 3) := by decide +kernel
theorem dX9_hoursFrom_29 : decode cX9_hoursFrom 29 = .ok (.iload 4, 2) := by decide +kernel
theorem dX9_hoursFrom_31 : decode cX9_hoursFrom 31 = .ok (.iaload, 1) := by decide +kernel
theorem dX9_hoursFrom_32 : decode cX9_hoursFrom 32 = .ok (.iadd, 1) := by decide +kernel
theorem dX9_hoursFrom_33 : decode cX9_hoursFrom 33 = .ok (.iaload, 1) := by decide +kernel
theorem dX9_hoursFrom_34 : decode cX9_hoursFrom 34 = .ok (.iadd, 1) := by decide +kernel
theorem dX9_hoursFrom_35 : decode cX9_hoursFrom 35 = .ok (.istore_n 2, 1) := by decide +kernel
theorem dX9_hoursFrom_36 : decode cX9_hoursFrom 36 = .ok (.aload_n 0, 1) := by decide +kernel
theorem dX9_hoursFrom_37 : decode cX9_hoursFrom 37 = .ok (.getfield 62, 3) := by decide +kernel
theorem dX9_hoursFrom_40 : decode cX9_hoursFrom 40 = .ok (.iload 4, 2) := by decide +kernel
theorem dX9_hoursFrom_42 : decode cX9_hoursFrom 42 = .ok (.iaload, 1) := by decide +kernel
theorem dX9_hoursFrom_43 : decode cX9_hoursFrom 43 = .ok (.istore_n 3, 1) := by decide +kernel
theorem dX9_hoursFrom_44 : decode cX9_hoursFrom 44 = .ok (.iinc 4 1, 3) := by decide +kernel
theorem dX9_hoursFrom_47 : decode cX9_hoursFrom 47 = .ok (.goto (-40), 3) := by decide +kernel
theorem dX9_hoursFrom_50 : decode cX9_hoursFrom 50 = .ok (.iload_n 2, 1) := by decide +kernel
theorem dX9_hoursFrom_51 : decode cX9_hoursFrom 51 = .ok (.aload_n 0, 1) := by decide +kernel
theorem dX9_hoursFrom_52 : decode cX9_hoursFrom 52 = .ok (.getfield 25, 3) := by decide +kernel
theorem dX9_hoursFrom_55 : decode cX9_hoursFrom 55 = .ok (.bipush 8, 2) := by decide +kernel
theorem dX9_hoursFrom_57 : decode cX9_hoursFrom 57 = .ok (.iload_n 3, 1) := by decide +kernel
theorem dX9_hoursFrom_58 : decode cX9_hoursFrom 58 = .ok (.imul, 1) := by decide +kernel
theorem dX9_hoursFrom_59 : decode cX9_hoursFrom 59 = .ok (.iaload, 1) := by decide +kernel
theorem dX9_hoursFrom_60 : decode cX9_hoursFrom 60 = .ok (.iadd, 1) := by decide +kernel
theorem dX9_hoursFrom_61 : decode cX9_hoursFrom 61 = .ok (.ireturn, 1) := by decide +kernel
theorem dX9_laysWays_0 : decode cX9_laysWays 0 = .ok (.iconst 0, 1) := by decide +kernel
theorem dX9_laysWays_1 : decode cX9_laysWays 1 = .ok (.istore_n 1, 1) := by decide +kernel
theorem dX9_laysWays_2 : decode cX9_laysWays 2 = .ok (.iload_n 1, 1) := by decide +kernel
theorem dX9_laysWays_3 : decode cX9_laysWays 3 = .ok (.bipush 64, 2) := by decide +kernel
theorem dX9_laysWays_5 : decode cX9_laysWays 5 = .ok (.if_icmp .ge 51, 3) := by decide +kernel
theorem dX9_laysWays_8 : decode cX9_laysWays 8 = .ok (.aload_n 0, 1) := by decide +kernel
theorem dX9_laysWays_9 : decode cX9_laysWays 9 = .ok (.getfield 25, 3) := by decide +kernel
theorem dX9_laysWays_12 : decode cX9_laysWays 12 = .ok (.iload_n 1, 1) := by decide +kernel
theorem dX9_laysWays_13 : decode cX9_laysWays 13 = .ok (.iload_n 1, 1) := by decide +kernel
theorem dX9_laysWays_14 : decode cX9_laysWays 14 = .ok (.bipush 8, 2) := by decide +kernel
theorem dX9_laysWays_16 : decode cX9_laysWays 16 = .ok (.idiv, 1) := by decide +kernel
theorem dX9_laysWays_17 : decode cX9_laysWays 17 = .ok (.iload_n 1, 1) := by decide +kernel
theorem dX9_laysWays_18 : decode cX9_laysWays 18 = .ok (.bipush 8, 2) := by decide +kernel
theorem dX9_laysWays_20 : decode cX9_laysWays 20 = .ok (.irem, 1) := by decide +kernel
theorem dX9_laysWays_21 : decode cX9_laysWays 21 = .ok (.if_icmp .ne 7, 3) := by decide +kernel
theorem dX9_laysWays_24 : decode cX9_laysWays 24 = .ok (.iconst 0, 1) := by decide +kernel
theorem dX9_laysWays_25 : decode cX9_laysWays 25 = .ok (.goto 24, 3) := by decide +kernel
theorem dX9_laysWays_28 : decode cX9_laysWays 28 = .ok (.aload_n 0, 1) := by decide +kernel
theorem dX9_laysWays_29 : decode cX9_laysWays 29 = .ok (.getfield 22, 3) := by decide +kernel
theorem dX9_laysWays_32 : decode cX9_laysWays 32 = .ok (.iload_n 1, 1) := by decide +kernel
theorem dX9_laysWays_33 : decode cX9_laysWays 33 = .ok (.iaload, 1) := by decide +kernel
theorem dX9_laysWays_34 : decode cX9_laysWays 34 = .ok (.ifCond .le 12, 3) := by decide +kernel
theorem dX9_laysWays_37 : decode cX9_laysWays 37 = .ok (.aload_n 0, 1) := by decide +kernel
theorem dX9_laysWays_38 : decode cX9_laysWays 38 = .ok (.getfield 22, 3) := by decide +kernel
theorem dX9_laysWays_41 : decode cX9_laysWays 41 = .ok (.iload_n 1, 1) := by decide +kernel
theorem dX9_laysWays_42 : decode cX9_laysWays 42 = .ok (.iaload, 1) := by decide +kernel
theorem dX9_laysWays_43 : decode cX9_laysWays 43 = .ok (.goto 6, 3) := by decide +kernel
theorem dX9_laysWays_46 : decode cX9_laysWays 46 = .ok (.sipush 1000, 3) := by decide +kernel
theorem dX9_laysWays_49 : decode cX9_laysWays 49 = .ok (.iastore, 1) := by decide +kernel
theorem dX9_laysWays_50 : decode cX9_laysWays 50 = .ok (.iinc 1 1, 3) := by decide +kernel
theorem dX9_laysWays_53 : decode cX9_laysWays 53 = .ok (.goto (-51), 3) := by decide +kernel
theorem dX9_laysWays_56 : decode cX9_laysWays 56 = .ok (.iconst 0, 1) := by decide +kernel
theorem dX9_laysWays_57 : decode cX9_laysWays 57 = .ok (.istore_n 1, 1) := by decide +kernel
theorem dX9_laysWays_58 : decode cX9_laysWays 58 = .ok (.iload_n 1, 1) := by decide +kernel
theorem dX9_laysWays_59 : decode cX9_laysWays 59 = .ok (.bipush 8, 2) := by decide +kernel
theorem dX9_laysWays_61 : decode cX9_laysWays 61 = .ok (.if_icmp .ge 79, 3) := by decide +kernel
theorem dX9_laysWays_64 : decode cX9_laysWays 64 = .ok (.iconst 0, 1) := by decide +kernel
theorem dX9_laysWays_65 : decode cX9_laysWays 65 = .ok (.istore_n 2, 1) := by decide +kernel
theorem dX9_laysWays_66 : decode cX9_laysWays 66 = .ok (.iload_n 2, 1) := by decide +kernel
theorem dX9_laysWays_67 : decode cX9_laysWays 67 = .ok (.bipush 64, 2) := by decide +kernel
theorem dX9_laysWays_69 : decode cX9_laysWays 69 = .ok (.if_icmp .ge 65, 3) := by decide +kernel
theorem dX9_laysWays_72 : decode cX9_laysWays 72 = .ok (.aload_n 0, 1) := by decide +kernel
theorem dX9_laysWays_73 : decode cX9_laysWays 73 = .ok (.getfield 25, 3) := by decide +kernel
theorem dX9_laysWays_76 : decode cX9_laysWays 76 = .ok (.iload_n 2, 1) := by decide +kernel
theorem dX9_laysWays_77 : decode cX9_laysWays 77 = .ok (.bipush 8, 2) := by decide +kernel
theorem dX9_laysWays_79 : decode cX9_laysWays 79 = .ok (.idiv, 1) := by decide +kernel
theorem dX9_laysWays_80 : decode cX9_laysWays 80 = .ok (.bipush 8, 2) := by decide +kernel
theorem dX9_laysWays_82 : decode cX9_laysWays 82 = .ok (.imul, 1) := by decide +kernel
theorem dX9_laysWays_83 : decode cX9_laysWays 83 = .ok (.iload_n 1, 1) := by decide +kernel
theorem dX9_laysWays_84 : decode cX9_laysWays 84 = .ok (.iadd, 1) := by decide +kernel
theorem dX9_laysWays_85 : decode cX9_laysWays 85 = .ok (.iaload, 1) := by decide +kernel
theorem dX9_laysWays_86 : decode cX9_laysWays 86 = .ok (.aload_n 0, 1) := by decide +kernel
theorem dX9_laysWays_87 : decode cX9_laysWays 87 = .ok (.getfield 25, 3) := by decide +kernel
theorem dX9_laysWays_90 : decode cX9_laysWays 90 = .ok (.bipush 8, 2) := by decide +kernel
theorem dX9_laysWays_92 : decode cX9_laysWays 92 = .ok (.iload_n 1, 1) := by decide +kernel
theorem dX9_laysWays_93 : decode cX9_laysWays 93 = .ok (.imul, 1) := by decide +kernel
theorem dX9_laysWays_94 : decode cX9_laysWays 94 = .ok (.iload_n 2, 1) := by decide +kernel
theorem dX9_laysWays_95 : decode cX9_laysWays 95 = .ok (.bipush 8, 2) := by decide +kernel
theorem dX9_laysWays_97 : decode cX9_laysWays 97 = .ok (.irem, 1) := by decide +kernel
theorem dX9_laysWays_98 : decode cX9_laysWays 98 = .ok (.iadd, 1) := by decide +kernel
theorem dX9_laysWays_99 : decode cX9_laysWays 99 = .ok (.iaload, 1) := by decide +kernel
theorem dX9_laysWays_100 : decode cX9_laysWays 100 = .ok (.iadd, 1) := by decide +kernel
theorem dX9_laysWays_101 : decode cX9_laysWays 101 = .ok (.istore_n 3, 1) := by decide +kernel
theorem dX9_laysWays_102 : decode cX9_laysWays 102 = .ok (.aload_n 0, 1) := by decide +kernel
theorem dX9_laysWays_103 : decode cX9_laysWays 103 = .ok (.getfield 25, 3) := by decide +kernel
theorem dX9_laysWays_106 : decode cX9_laysWays 106 = .ok (.iload_n 2, 1) := by decide +kernel
theorem dX9_laysWays_107 : decode cX9_laysWays 107 = .ok (.iload_n 3, 1) := by decide +kernel
theorem dX9_laysWays_108 : decode cX9_laysWays 108 = .ok (.aload_n 0, 1) := by decide +kernel
theorem dX9_laysWays_109 : decode cX9_laysWays 109 = .ok (.getfield 25, 3) := by decide +kernel
theorem dX9_laysWays_112 : decode cX9_laysWays 112 = .ok (.iload_n 2, 1) := by decide +kernel
theorem dX9_laysWays_113 : decode cX9_laysWays 113 = .ok (.iaload, 1) := by decide +kernel
theorem dX9_laysWays_114 : decode cX9_laysWays 114 = .ok (.if_icmp .ge 7, 3) := by decide +kernel
theorem dX9_laysWays_117 : decode cX9_laysWays 117 = .ok (.iload_n 3, 1) := by decide +kernel
theorem dX9_laysWays_118 : decode cX9_laysWays 118 = .ok (.goto 9, 3) := by decide +kernel
theorem dX9_laysWays_121 : decode cX9_laysWays 121 = .ok (.aload_n 0, 1) := by decide +kernel
theorem dX9_laysWays_122 : decode cX9_laysWays 122 = .ok (.getfield 25, 3) := by decide +kernel
theorem dX9_laysWays_125 : decode cX9_laysWays 125 = .ok (.iload_n 2, 1) := by decide +kernel
theorem dX9_laysWays_126 : decode cX9_laysWays 126 = .ok (.iaload, 1) := by decide +kernel
theorem dX9_laysWays_127 : decode cX9_laysWays 127 = .ok (.iastore, 1) := by decide +kernel
theorem dX9_laysWays_128 : decode cX9_laysWays 128 = .ok (.iinc 2 1, 3) := by decide +kernel
theorem dX9_laysWays_131 : decode cX9_laysWays 131 = .ok (.goto (-65), 3) := by decide +kernel
theorem dX9_laysWays_134 : decode cX9_laysWays 134 = .ok (.iinc 1 1, 3) := by decide +kernel
theorem dX9_laysWays_137 : decode cX9_laysWays 137 = .ok (.goto (-79), 3) := by decide +kernel
theorem dX9_laysWays_140 : decode cX9_laysWays 140 = .ok (.return_, 1) := by decide +kernel
theorem dX9_looksAt_0 : decode cX9_looksAt 0 = .ok (.aload_n 0, 1) := by decide +kernel
theorem dX9_looksAt_1 : decode cX9_looksAt 1 = .ok (.iload_n 1, 1) := by decide +kernel
theorem dX9_looksAt_2 : decode cX9_looksAt 2 = .ok (.putfield 184, 3) := by decide +kernel
theorem dX9_looksAt_5 : decode cX9_looksAt 5 = .ok (.iload_n 2, 1) := by decide +kernel
theorem dX9_looksAt_6 : decode cX9_looksAt 6 = .ok (.istore_n 3, 1) := by decide +kernel
theorem dX9_looksAt_7 : decode cX9_looksAt 7 = .ok (.iconst 0, 1) := by decide +kernel
theorem dX9_looksAt_8 : decode cX9_looksAt 8 = .ok (.istore 4, 2) := by decide +kernel
theorem dX9_looksAt_10 : decode cX9_looksAt 10 = .ok (.iload_n 1, 1) := by decide +kernel
theorem dX9_looksAt_11 : decode cX9_looksAt 11 = .ok (.iconst 1, 1) := by decide +kernel
theorem dX9_looksAt_12 : decode cX9_looksAt 12 = .ok (.isub, 1) := by decide +kernel
theorem dX9_looksAt_13 : decode cX9_looksAt 13 = .ok (.istore 5, 2) := by decide +kernel
theorem dX9_looksAt_15 : decode cX9_looksAt 15 = .ok (.iload 5, 2) := by decide +kernel
theorem dX9_looksAt_17 : decode cX9_looksAt 17 = .ok (.ifCond .lt 63, 3) := by decide +kernel
theorem dX9_looksAt_20 : decode cX9_looksAt 20 = .ok (.iload_n 3, 1) := by decide +kernel
theorem dX9_looksAt_21 : decode cX9_looksAt 21 = .ok (.iconst 5, 1) := by decide +kernel
theorem dX9_looksAt_22 : decode cX9_looksAt 22 = .ok (.irem, 1) := by decide +kernel
theorem dX9_looksAt_23 : decode cX9_looksAt 23 = .ok (.istore 6, 2) := by decide +kernel
theorem dX9_looksAt_25 : decode cX9_looksAt 25 = .ok (.iload_n 3, 1) := by decide +kernel
theorem dX9_looksAt_26 : decode cX9_looksAt 26 = .ok (.iconst 5, 1) := by decide +kernel
theorem dX9_looksAt_27 : decode cX9_looksAt 27 = .ok (.idiv, 1) := by decide +kernel
theorem dX9_looksAt_28 : decode cX9_looksAt 28 = .ok (.istore_n 3, 1) := by decide +kernel
theorem dX9_looksAt_29 : decode cX9_looksAt 29 = .ok (.iload 6, 2) := by decide +kernel
theorem dX9_looksAt_31 : decode cX9_looksAt 31 = .ok (.aload_n 0, 1) := by decide +kernel
theorem dX9_looksAt_32 : decode cX9_looksAt 32 = .ok (.getfield 256, 3) := by decide +kernel
theorem dX9_looksAt_35 : decode cX9_looksAt 35 = .ok (.if_icmp .ge 14, 3) := by decide +kernel
theorem dX9_looksAt_38 : decode cX9_looksAt 38 = .ok (.iload 4, 2) := by decide +kernel
theorem dX9_looksAt_40 : decode cX9_looksAt 40 = .ok (.iload 6, 2) := by decide +kernel
theorem dX9_looksAt_42 : decode cX9_looksAt 42 = .ok (.ishr, 1) := by decide +kernel
theorem dX9_looksAt_43 : decode cX9_looksAt 43 = .ok (.iconst 1, 1) := by decide +kernel
theorem dX9_looksAt_44 : decode cX9_looksAt 44 = .ok (.iand, 1) := by decide +kernel
theorem dX9_looksAt_45 : decode cX9_looksAt 45 = .ok (.iconst 1, 1) := by decide +kernel
theorem dX9_looksAt_46 : decode cX9_looksAt 46 = .ok (.if_icmp .ne 5, 3) := by decide +kernel
theorem dX9_looksAt_49 : decode cX9_looksAt 49 = .ok (.iconst (-1), 1) := by decide +kernel
theorem dX9_looksAt_50 : decode cX9_looksAt 50 = .ok (.ireturn, 1) := by decide +kernel
theorem dX9_looksAt_51 : decode cX9_looksAt 51 = .ok (.iload 4, 2) := by decide +kernel
theorem dX9_looksAt_53 : decode cX9_looksAt 53 = .ok (.iconst 1, 1) := by decide +kernel
theorem dX9_looksAt_54 : decode cX9_looksAt 54 = .ok (.iload 6, 2) := by decide +kernel
theorem dX9_looksAt_56 : decode cX9_looksAt 56 = .ok (.ishl, 1) := by decide +kernel
theorem dX9_looksAt_57 : decode cX9_looksAt 57 = .ok (.ior, 1) := by decide +kernel
theorem dX9_looksAt_58 : decode cX9_looksAt 58 = .ok (.istore 4, 2) := by decide +kernel
theorem dX9_looksAt_60 : decode cX9_looksAt 60 = .ok (.aload_n 0, 1) := by decide +kernel
theorem dX9_looksAt_61 : decode cX9_looksAt 61 = .ok (.getfield 62, 3) := by decide +kernel
theorem dX9_looksAt_64 : decode cX9_looksAt 64 = .ok (.iload 5, 2) := by decide +kernel
theorem dX9_looksAt_66 : decode cX9_looksAt 66 = .ok (.aload_n 0, 1) := by decide +kernel
theorem dX9_looksAt_67 : decode cX9_looksAt 67 = .ok (.getfield 81, 3) := by decide +kernel
theorem dX9_looksAt_70 : decode cX9_looksAt 70 = .ok (.iload 6, 2) := by decide +kernel
theorem dX9_looksAt_72 : decode cX9_looksAt 72 = .ok (.iaload, 1) := by decide +kernel
theorem dX9_looksAt_73 : decode cX9_looksAt 73 = .ok (.iastore, 1) := by decide +kernel
theorem dX9_looksAt_74 : decode cX9_looksAt 74 = .ok (.iinc 5 (-1), 3) := by decide +kernel
theorem dX9_looksAt_77 : decode cX9_looksAt 77 = .ok (.goto (-62), 3) := by decide +kernel
theorem dX9_looksAt_80 : decode cX9_looksAt 80 = .ok (.iload 4, 2) := by decide +kernel
theorem dX9_looksAt_82 : decode cX9_looksAt 82 = .ok (.ireturn, 1) := by decide +kernel
theorem dX9_mostGain_0 : decode cX9_mostGain 0 = .ok (.aload_n 0, 1) := by decide +kernel
theorem dX9_mostGain_1 : decode cX9_mostGain 1 = .ok (.invokevirtual 187, 3) := by decide +kernel
theorem dX9_mostGain_4 : decode cX9_mostGain 4 = .ok (.iconst 0, 1) := by decide +kernel
theorem dX9_mostGain_5 : decode cX9_mostGain 5 = .ok (.istore_n 1, 1) := by decide +kernel
theorem dX9_mostGain_6 : decode cX9_mostGain 6 = .ok (.iload_n 1, 1) := by decide +kernel
theorem dX9_mostGain_7 : decode cX9_mostGain 7 = .ok (.aload_n 0, 1) := by decide +kernel
theorem dX9_mostGain_8 : decode cX9_mostGain 8 = .ok (.getfield 32, 3) := by decide +kernel
theorem dX9_mostGain_11 : decode cX9_mostGain 11 = .ok (.if_icmp .gt 16, 3) := by decide +kernel
theorem dX9_mostGain_14 : decode cX9_mostGain 14 = .ok (.aload_n 0, 1) := by decide +kernel
theorem dX9_mostGain_15 : decode cX9_mostGain 15 = .ok (.getfield 84, 3) := by decide +kernel
theorem dX9_mostGain_18 : decode cX9_mostGain 18 = .ok (.iload_n 1, 1) := by decide +kernel
theorem dX9_mostGain_19 : decode cX9_mostGain 19 = .ok (.lconst 0, 1) := by decide +kernel
theorem dX9_mostGain_20 : decode cX9_mostGain 20 = .ok (.lastore, 1) := by decide +kernel
theorem dX9_mostGain_21 : decode cX9_mostGain 21 = .ok (.iinc 1 1, 3) := by decide +kernel
theorem dX9_mostGain_24 : decode cX9_mostGain 24 = .ok (.goto (-18), 3) := by decide +kernel
theorem dX9_mostGain_27 : decode cX9_mostGain 27 = .ok (.iconst 0, 1) := by decide +kernel
theorem dX9_mostGain_28 : decode cX9_mostGain 28 = .ok (.istore_n 1, 1) := by decide +kernel
theorem dX9_mostGain_29 : decode cX9_mostGain 29 = .ok (.iload_n 1, 1) := by decide +kernel
theorem dX9_mostGain_30 : decode cX9_mostGain 30 = .ok (.bipush 6, 2) := by decide +kernel
theorem dX9_mostGain_32 : decode cX9_mostGain 32 = .ok (.if_icmp .ge 102, 3) := by decide +kernel
theorem dX9_mostGain_35 : decode cX9_mostGain 35 = .ok (.aload_n 0, 1) := by decide +kernel
theorem dX9_mostGain_36 : decode cX9_mostGain 36 = .ok (.getfield 32, 3) := by decide +kernel
theorem dX9_mostGain_39 : decode cX9_mostGain 39 = .ok (.istore_n 2, 1) := by decide +kernel
theorem dX9_mostGain_40 : decode cX9_mostGain 40 = .ok (.iload_n 2, 1) := by decide +kernel
theorem dX9_mostGain_41 : decode cX9_mostGain 41 = .ok (.ifCond .le 87, 3) := by decide +kernel
theorem dX9_mostGain_44 : decode cX9_mostGain 44 = .ok (.iconst 1, 1) := by decide +kernel
theorem dX9_mostGain_45 : decode cX9_mostGain 45 = .ok (.istore_n 3, 1) := by decide +kernel
theorem dX9_mostGain_46 : decode cX9_mostGain 46 = .ok (.iload_n 3, 1) := by decide +kernel
theorem dX9_mostGain_47 : decode cX9_mostGain 47 = .ok (.iconst 5, 1) := by decide +kernel
theorem dX9_mostGain_48 : decode cX9_mostGain 48 = .ok (.if_icmp .ge 74, 3) := by decide +kernel
theorem dX9_mostGain_51 : decode cX9_mostGain 51 = .ok (.iload_n 3, 1) := by decide +kernel
theorem dX9_mostGain_52 : decode cX9_mostGain 52 = .ok (.aload_n 0, 1) := by decide +kernel
theorem dX9_mostGain_53 : decode cX9_mostGain 53 = .ok (.getfield 13, 3) := by decide +kernel
theorem dX9_mostGain_56 : decode cX9_mostGain 56 = .ok (.iload_n 1, 1) := by decide +kernel
theorem dX9_mostGain_57 : decode cX9_mostGain 57 = .ok (.iaload, 1) := by decide +kernel
theorem dX9_mostGain_58 : decode cX9_mostGain 58 = .ok (.imul, 1) := by decide +kernel
theorem dX9_mostGain_59 : decode cX9_mostGain 59 = .ok (.iload_n 2, 1) := by decide +kernel
theorem dX9_mostGain_60 : decode cX9_mostGain 60 = .ok (.if_icmp .gt 62, 3) := by decide +kernel
theorem dX9_mostGain_63 : decode cX9_mostGain 63 = .ok (.aload_n 0, 1) := by decide +kernel
theorem dX9_mostGain_64 : decode cX9_mostGain 64 = .ok (.getfield 84, 3) := by decide +kernel
theorem dX9_mostGain_67 : decode cX9_mostGain 67 = .ok (.iload_n 2, 1) := by decide +kernel
theorem dX9_mostGain_68 : decode cX9_mostGain 68 = .ok (.iload_n 3, 1) := by decide +kernel
theorem dX9_mostGain_69 : decode cX9_mostGain 69 = .ok (.aload_n 0, 1) := by decide +kernel
theorem dX9_mostGain_70 : decode cX9_mostGain 70 = .ok (.getfield 13, 3) := by decide +kernel
theorem dX9_mostGain_73 : decode cX9_mostGain 73 = .ok (.iload_n 1, 1) := by decide +kernel
theorem dX9_mostGain_74 : decode cX9_mostGain 74 = .ok (.iaload, 1) := by decide +kernel
theorem dX9_mostGain_75 : decode cX9_mostGain 75 = .ok (.imul, 1) := by decide +kernel
theorem dX9_mostGain_76 : decode cX9_mostGain 76 = .ok (.isub, 1) := by decide +kernel
theorem dX9_mostGain_77 : decode cX9_mostGain 77 = .ok (.laload, 1) := by decide +kernel
theorem dX9_mostGain_78 : decode cX9_mostGain 78 = .ok (.aload_n 0, 1) := by decide +kernel
theorem dX9_mostGain_79 : decode cX9_mostGain 79 = .ok (.iload_n 1, 1) := by decide +kernel
theorem dX9_mostGain_80 : decode cX9_mostGain 80 = .ok (.iload_n 3, 1) := by decide +kernel
theorem dX9_mostGain_81 : decode cX9_mostGain 81 = .ok (.invokevirtual 218, 3) := by decide +kernel
theorem dX9_mostGain_84 : decode cX9_mostGain 84 = .ok (.ladd, 1) := by decide +kernel
theorem dX9_mostGain_85 : decode cX9_mostGain 85 = .ok (.lstore 4, 2) := by decide +kernel
theorem dX9_mostGain_87 : decode cX9_mostGain 87 = .ok (.aload_n 0, 1) := by decide +kernel
theorem dX9_mostGain_88 : decode cX9_mostGain 88 = .ok (.getfield 84, 3) := by decide +kernel
theorem dX9_mostGain_91 : decode cX9_mostGain 91 = .ok (.iload_n 2, 1) := by decide +kernel
theorem dX9_mostGain_92 : decode cX9_mostGain 92 = .ok (.lload 4, 2) := by decide +kernel
theorem dX9_mostGain_94 : decode cX9_mostGain 94 = .ok (.aload_n 0, 1) := by decide +kernel
theorem dX9_mostGain_95 : decode cX9_mostGain 95 = .ok (.getfield 84, 3) := by decide +kernel
theorem dX9_mostGain_98 : decode cX9_mostGain 98 = .ok (.iload_n 2, 1) := by decide +kernel
theorem dX9_mostGain_99 : decode cX9_mostGain 99 = .ok (.laload, 1) := by decide +kernel
theorem dX9_mostGain_100 : decode cX9_mostGain 100 = .ok (.lcmp, 1) := by decide +kernel
theorem dX9_mostGain_101 : decode cX9_mostGain 101 = .ok (.ifCond .le 8, 3) := by decide +kernel
theorem dX9_mostGain_104 : decode cX9_mostGain 104 = .ok (.lload 4, 2) := by decide +kernel
theorem dX9_mostGain_106 : decode cX9_mostGain 106 = .ok (.goto 9, 3) := by decide +kernel
theorem dX9_mostGain_109 : decode cX9_mostGain 109 = .ok (.aload_n 0, 1) := by decide +kernel
theorem dX9_mostGain_110 : decode cX9_mostGain 110 = .ok (.getfield 84, 3) := by decide +kernel
theorem dX9_mostGain_113 : decode cX9_mostGain 113 = .ok (.iload_n 2, 1) := by decide +kernel
theorem dX9_mostGain_114 : decode cX9_mostGain 114 = .ok (.laload, 1) := by decide +kernel
theorem dX9_mostGain_115 : decode cX9_mostGain 115 = .ok (.lastore, 1) := by decide +kernel
theorem dX9_mostGain_116 : decode cX9_mostGain 116 = .ok (.iinc 3 1, 3) := by decide +kernel
theorem dX9_mostGain_119 : decode cX9_mostGain 119 = .ok (.goto (-73), 3) := by decide +kernel
theorem dX9_mostGain_122 : decode cX9_mostGain 122 = .ok (.iinc 2 (-1), 3) := by decide +kernel
theorem dX9_mostGain_125 : decode cX9_mostGain 125 = .ok (.goto (-85), 3) := by decide +kernel
theorem dX9_mostGain_128 : decode cX9_mostGain 128 = .ok (.iinc 1 1, 3) := by decide +kernel
theorem dX9_mostGain_131 : decode cX9_mostGain 131 = .ok (.goto (-102), 3) := by decide +kernel
theorem dX9_mostGain_134 : decode cX9_mostGain 134 = .ok (.aload_n 0, 1) := by decide +kernel
theorem dX9_mostGain_135 : decode cX9_mostGain 135 = .ok (.getfield 84, 3) := by decide +kernel
theorem dX9_mostGain_138 : decode cX9_mostGain 138 = .ok (.aload_n 0, 1) := by decide +kernel
theorem dX9_mostGain_139 : decode cX9_mostGain 139 = .ok (.getfield 32, 3) := by decide +kernel
theorem dX9_mostGain_142 : decode cX9_mostGain 142 = .ok (.laload, 1) := by decide +kernel
theorem dX9_mostGain_143 : decode cX9_mostGain 143 = .ok (.iconst 5, 1) := by decide +kernel
theorem dX9_mostGain_144 : decode cX9_mostGain 144 = .ok (.aload_n 0, 1) := by decide +kernel
theorem dX9_mostGain_145 : decode cX9_mostGain 145 = .ok (.getfield 184, 3) := by decide +kernel
theorem dX9_mostGain_148 : decode cX9_mostGain 148 = .ok (.isub, 1) := by decide +kernel
theorem dX9_mostGain_149 : decode cX9_mostGain 149 = .ok (.invokestatic 193, 3) := by decide +kernel
theorem dX9_mostGain_152 : decode cX9_mostGain 152 = .ok (.lmul, 1) := by decide +kernel
theorem dX9_mostGain_153 : decode cX9_mostGain 153 = .ok (.lreturn, 1) := by decide +kernel
theorem dX9_goesRound_0 : decode cX9_goesRound 0 = .ok (.aload_n 0, 1) := by decide +kernel
theorem dX9_goesRound_1 : decode cX9_goesRound 1 = .ok (.invokevirtual 129, 3) := by decide +kernel
theorem dX9_goesRound_4 : decode cX9_goesRound 4 = .ok (.aload_n 0, 1) := by decide +kernel
theorem dX9_goesRound_5 : decode cX9_goesRound 5 = .ok (.iconst 0, 1) := by decide +kernel
theorem dX9_goesRound_6 : decode cX9_goesRound 6 = .ok (.putfield 259, 3) := by decide +kernel
theorem dX9_goesRound_9 : decode cX9_goesRound 9 = .ok (.aload_n 0, 1) := by decide +kernel
theorem dX9_goesRound_10 : decode cX9_goesRound 10 = .ok (.ldc2_w 226, 3) := by decide +kernel
theorem dX9_goesRound_13 : decode cX9_goesRound 13 = .ok (.putfield 262, 3) := by decide +kernel
theorem dX9_goesRound_16 : decode cX9_goesRound 16 = .ok (.iconst 0, 1) := by decide +kernel
theorem dX9_goesRound_17 : decode cX9_goesRound 17 = .ok (.istore_n 1, 1) := by decide +kernel
theorem dX9_goesRound_18 : decode cX9_goesRound 18 = .ok (.iload_n 1, 1) := by decide +kernel
theorem dX9_goesRound_19 : decode cX9_goesRound 19 = .ok (.bipush 32, 2) := by decide +kernel
theorem dX9_goesRound_21 : decode cX9_goesRound 21 = .ok (.if_icmp .ge 18, 3) := by decide +kernel
theorem dX9_goesRound_24 : decode cX9_goesRound 24 = .ok (.aload_n 0, 1) := by decide +kernel
theorem dX9_goesRound_25 : decode cX9_goesRound 25 = .ok (.getfield 90, 3) := by decide +kernel
theorem dX9_goesRound_28 : decode cX9_goesRound 28 = .ok (.iload_n 1, 1) := by decide +kernel
theorem dX9_goesRound_29 : decode cX9_goesRound 29 = .ok (.ldc2_w 226, 3) := by decide +kernel
theorem dX9_goesRound_32 : decode cX9_goesRound 32 = .ok (.lastore, 1) := by decide +kernel
theorem dX9_goesRound_33 : decode cX9_goesRound 33 = .ok (.iinc 1 1, 3) := by decide +kernel
theorem dX9_goesRound_36 : decode cX9_goesRound 36 = .ok (.goto (-18), 3) := by decide +kernel
theorem dX9_goesRound_39 : decode cX9_goesRound 39 = .ok (.iconst 0, 1) := by decide +kernel
theorem dX9_goesRound_40 : decode cX9_goesRound 40 = .ok (.istore_n 1, 1) := by decide +kernel
theorem dX9_goesRound_41 : decode cX9_goesRound 41 = .ok (.iload_n 1, 1) := by decide +kernel
theorem dX9_goesRound_42 : decode cX9_goesRound 42 = .ok (.aload_n 0, 1) := by decide +kernel
theorem dX9_goesRound_43 : decode cX9_goesRound 43 = .ok (.getfield 256, 3) := by decide +kernel
theorem dX9_goesRound_46 : decode cX9_goesRound 46 = .ok (.if_icmp .gt 134, 3) := by decide +kernel
theorem dX9_goesRound_49 : decode cX9_goesRound 49 = .ok (.iconst 0, 1) := by decide +kernel
theorem dX9_goesRound_50 : decode cX9_goesRound 50 = .ok (.istore_n 2, 1) := by decide +kernel
theorem dX9_goesRound_51 : decode cX9_goesRound 51 = .ok (.iload_n 2, 1) := by decide +kernel
theorem dX9_goesRound_52 : decode cX9_goesRound 52 = .ok (.iload_n 1, 1) := by decide +kernel
theorem dX9_goesRound_53 : decode cX9_goesRound 53 = .ok (.invokestatic 265, 3) := by decide +kernel
theorem dX9_goesRound_56 : decode cX9_goesRound 56 = .ok (.if_icmp .ge 118, 3) := by decide +kernel
theorem dX9_goesRound_59 : decode cX9_goesRound 59 = .ok (.aload_n 0, 1) := by decide +kernel
theorem dX9_goesRound_60 : decode cX9_goesRound 60 = .ok (.iload_n 1, 1) := by decide +kernel
theorem dX9_goesRound_61 : decode cX9_goesRound 61 = .ok (.iload_n 2, 1) := by decide +kernel
theorem dX9_goesRound_62 : decode cX9_goesRound 62 = .ok (.invokevirtual 268, 3) := by decide +kernel
theorem dX9_goesRound_65 : decode cX9_goesRound 65 = .ok (.istore_n 3, 1) := by decide +kernel
theorem dX9_goesRound_66 : decode cX9_goesRound 66 = .ok (.iload_n 3, 1) := by decide +kernel
theorem dX9_goesRound_67 : decode cX9_goesRound 67 = .ok (.iconst (-1), 1) := by decide +kernel
theorem dX9_goesRound_68 : decode cX9_goesRound 68 = .ok (.if_icmp .eq 100, 3) := by decide +kernel
theorem dX9_goesRound_71 : decode cX9_goesRound 71 = .ok (.aload_n 0, 1) := by decide +kernel
theorem dX9_goesRound_72 : decode cX9_goesRound 72 = .ok (.iconst 0, 1) := by decide +kernel
theorem dX9_goesRound_73 : decode cX9_goesRound 73 = .ok (.invokevirtual 202, 3) := by decide +kernel
theorem dX9_goesRound_76 : decode cX9_goesRound 76 = .ok (.aload_n 0, 1) := by decide +kernel
theorem dX9_goesRound_77 : decode cX9_goesRound 77 = .ok (.getfield 28, 3) := by decide +kernel
theorem dX9_goesRound_80 : decode cX9_goesRound 80 = .ok (.if_icmp .gt 88, 3) := by decide +kernel
theorem dX9_goesRound_83 : decode cX9_goesRound 83 = .ok (.aload_n 0, 1) := by decide +kernel
theorem dX9_goesRound_84 : decode cX9_goesRound 84 = .ok (.invokevirtual 271, 3) := by decide +kernel
theorem dX9_goesRound_87 : decode cX9_goesRound 87 = .ok (.lstore 4, 2) := by decide +kernel
theorem dX9_goesRound_89 : decode cX9_goesRound 89 = .ok (.aload_n 0, 1) := by decide +kernel
theorem dX9_goesRound_90 : decode cX9_goesRound 90 = .ok (.getfield 90, 3) := by decide +kernel
theorem dX9_goesRound_93 : decode cX9_goesRound 93 = .ok (.iload_n 3, 1) := by decide +kernel
theorem dX9_goesRound_94 : decode cX9_goesRound 94 = .ok (.lload 4, 2) := by decide +kernel
theorem dX9_goesRound_96 : decode cX9_goesRound 96 = .ok (.aload_n 0, 1) := by decide +kernel
theorem dX9_goesRound_97 : decode cX9_goesRound 97 = .ok (.getfield 90, 3) := by decide +kernel
theorem dX9_goesRound_100 : decode cX9_goesRound 100 = .ok (.iload_n 3, 1) := by decide +kernel
theorem dX9_goesRound_101 : decode cX9_goesRound 101 = .ok (.laload, 1) := by decide +kernel
theorem dX9_goesRound_102 : decode cX9_goesRound 102 = .ok (.lcmp, 1) := by decide +kernel
theorem dX9_goesRound_103 : decode cX9_goesRound 103 = .ok (.ifCond .le 8, 3) := by decide +kernel
theorem dX9_goesRound_106 : decode cX9_goesRound 106 = .ok (.lload 4, 2) := by decide +kernel
theorem dX9_goesRound_108 : decode cX9_goesRound 108 = .ok (.goto 9, 3) := by decide +kernel
theorem dX9_goesRound_111 : decode cX9_goesRound 111 = .ok (.aload_n 0, 1) := by decide +kernel
theorem dX9_goesRound_112 : decode cX9_goesRound 112 = .ok (.getfield 90, 3) := by decide +kernel
theorem dX9_goesRound_115 : decode cX9_goesRound 115 = .ok (.iload_n 3, 1) := by decide +kernel
theorem dX9_goesRound_116 : decode cX9_goesRound 116 = .ok (.laload, 1) := by decide +kernel
theorem dX9_goesRound_117 : decode cX9_goesRound 117 = .ok (.lastore, 1) := by decide +kernel
theorem dX9_goesRound_118 : decode cX9_goesRound 118 = .ok (.lload 4, 2) := by decide +kernel
theorem dX9_goesRound_120 : decode cX9_goesRound 120 = .ok (.aload_n 0, 1) := by decide +kernel
theorem dX9_goesRound_121 : decode cX9_goesRound 121 = .ok (.getfield 262, 3) := by decide +kernel
theorem dX9_goesRound_124 : decode cX9_goesRound 124 = .ok (.lcmp, 1) := by decide +kernel
theorem dX9_goesRound_125 : decode cX9_goesRound 125 = .ok (.ifCond .le 43, 3) := by decide +kernel
theorem dX9_goesRound_128 : decode cX9_goesRound 128 = .ok (.aload_n 0, 1) := by decide +kernel
theorem dX9_goesRound_129 : decode cX9_goesRound 129 = .ok (.lload 4, 2) := by decide +kernel
theorem dX9_goesRound_131 : decode cX9_goesRound 131 = .ok (.putfield 262, 3) := by decide +kernel
theorem dX9_goesRound_134 : decode cX9_goesRound 134 = .ok (.aload_n 0, 1) := by decide +kernel
theorem dX9_goesRound_135 : decode cX9_goesRound 135 = .ok (.iload_n 1, 1) := by decide +kernel
theorem dX9_goesRound_136 : decode cX9_goesRound 136 = .ok (.putfield 259, 3) := by decide +kernel
theorem dX9_goesRound_139 : decode cX9_goesRound 139 = .ok (.iconst 0, 1) := by decide +kernel
theorem dX9_goesRound_140 : decode cX9_goesRound 140 = .ok (.istore 6, 2) := by decide +kernel
theorem dX9_goesRound_142 : decode cX9_goesRound 142 = .ok (.iload 6, 2) := by decide +kernel
theorem dX9_goesRound_144 : decode cX9_goesRound 144 = .ok (.iload_n 1, 1) := by decide +kernel
theorem dX9_goesRound_145 : decode cX9_goesRound 145 = .ok (.if_icmp .ge 23, 3) := by decide +kernel
theorem dX9_goesRound_148 : decode cX9_goesRound 148 = .ok (.aload_n 0, 1) := by decide +kernel
theorem dX9_goesRound_149 : decode cX9_goesRound 149 = .ok (.getfield 87, 3) := by decide +kernel
theorem dX9_goesRound_152 : decode cX9_goesRound 152 = .ok (.iload 6, 2) := by decide +kernel
theorem dX9_goesRound_154 : decode cX9_goesRound 154 = .ok (.aload_n 0, 1) := by decide +kernel
theorem dX9_goesRound_155 : decode cX9_goesRound 155 = .ok (.getfield 62, 3) := by decide +kernel
theorem dX9_goesRound_158 : decode cX9_goesRound 158 = .ok (.iload 6, 2) := by decide +kernel
theorem dX9_goesRound_160 : decode cX9_goesRound 160 = .ok (.iaload, 1) := by decide +kernel
theorem dX9_goesRound_161 : decode cX9_goesRound 161 = .ok (.iastore, 1) := by decide +kernel
theorem dX9_goesRound_162 : decode cX9_goesRound 162 = .ok (.iinc 6 1, 3) := by decide +kernel
theorem dX9_goesRound_165 : decode cX9_goesRound 165 = .ok (.goto (-23), 3) := by decide +kernel
theorem dX9_goesRound_168 : decode cX9_goesRound 168 = .ok (.iinc 2 1, 3) := by decide +kernel
theorem dX9_goesRound_171 : decode cX9_goesRound 171 = .ok (.goto (-120), 3) := by decide +kernel
theorem dX9_goesRound_174 : decode cX9_goesRound 174 = .ok (.iinc 1 1, 3) := by decide +kernel
theorem dX9_goesRound_177 : decode cX9_goesRound 177 = .ok (.goto (-136), 3) := by decide +kernel
theorem dX9_goesRound_180 : decode cX9_goesRound 180 = .ok (.return_, 1) := by decide +kernel
theorem dX9_parted_0 : decode cX9_parted 0 = .ok (.aload_n 0, 1) := by decide +kernel
theorem dX9_parted_1 : decode cX9_parted 1 = .ok (.invokevirtual 278, 3) := by decide +kernel
theorem dX9_parted_4 : decode cX9_parted 4 = .ok (.aload_n 0, 1) := by decide +kernel
theorem dX9_parted_5 : decode cX9_parted 5 = .ok (.ldc2_w 226, 3) := by decide +kernel
theorem dX9_parted_8 : decode cX9_parted 8 = .ok (.putfield 281, 3) := by decide +kernel
theorem dX9_parted_11 : decode cX9_parted 11 = .ok (.iconst 0, 1) := by decide +kernel
theorem dX9_parted_12 : decode cX9_parted 12 = .ok (.istore_n 1, 1) := by decide +kernel
theorem dX9_parted_13 : decode cX9_parted 13 = .ok (.iload_n 1, 1) := by decide +kernel
theorem dX9_parted_14 : decode cX9_parted 14 = .ok (.iconst 1, 1) := by decide +kernel
theorem dX9_parted_15 : decode cX9_parted 15 = .ok (.aload_n 0, 1) := by decide +kernel
theorem dX9_parted_16 : decode cX9_parted 16 = .ok (.getfield 256, 3) := by decide +kernel
theorem dX9_parted_19 : decode cX9_parted 19 = .ok (.ishl, 1) := by decide +kernel
theorem dX9_parted_20 : decode cX9_parted 20 = .ok (.if_icmp .ge 107, 3) := by decide +kernel
theorem dX9_parted_23 : decode cX9_parted 23 = .ok (.iconst 0, 1) := by decide +kernel
theorem dX9_parted_24 : decode cX9_parted 24 = .ok (.istore_n 2, 1) := by decide +kernel
theorem dX9_parted_25 : decode cX9_parted 25 = .ok (.iload_n 2, 1) := by decide +kernel
theorem dX9_parted_26 : decode cX9_parted 26 = .ok (.iconst 1, 1) := by decide +kernel
theorem dX9_parted_27 : decode cX9_parted 27 = .ok (.aload_n 0, 1) := by decide +kernel
theorem dX9_parted_28 : decode cX9_parted 28 = .ok (.getfield 256, 3) := by decide +kernel
theorem dX9_parted_31 : decode cX9_parted 31 = .ok (.ishl, 1) := by decide +kernel
theorem dX9_parted_32 : decode cX9_parted 32 = .ok (.if_icmp .ge 89, 3) := by decide +kernel
theorem dX9_parted_35 : decode cX9_parted 35 = .ok (.iload_n 1, 1) := by decide +kernel
theorem dX9_parted_36 : decode cX9_parted 36 = .ok (.iload_n 2, 1) := by decide +kernel
theorem dX9_parted_37 : decode cX9_parted 37 = .ok (.iand, 1) := by decide +kernel
theorem dX9_parted_38 : decode cX9_parted 38 = .ok (.ifCond .ne 77, 3) := by decide +kernel
theorem dX9_parted_41 : decode cX9_parted 41 = .ok (.aload_n 0, 1) := by decide +kernel
theorem dX9_parted_42 : decode cX9_parted 42 = .ok (.getfield 90, 3) := by decide +kernel
theorem dX9_parted_45 : decode cX9_parted 45 = .ok (.iload_n 1, 1) := by decide +kernel
theorem dX9_parted_46 : decode cX9_parted 46 = .ok (.laload, 1) := by decide +kernel
theorem dX9_parted_47 : decode cX9_parted 47 = .ok (.ldc2_w 226, 3) := by decide +kernel
theorem dX9_parted_50 : decode cX9_parted 50 = .ok (.lcmp, 1) := by decide +kernel
theorem dX9_parted_51 : decode cX9_parted 51 = .ok (.ifCond .eq 64, 3) := by decide +kernel
theorem dX9_parted_54 : decode cX9_parted 54 = .ok (.aload_n 0, 1) := by decide +kernel
theorem dX9_parted_55 : decode cX9_parted 55 = .ok (.getfield 90, 3) := by decide +kernel
theorem dX9_parted_58 : decode cX9_parted 58 = .ok (.iload_n 2, 1) := by decide +kernel
theorem dX9_parted_59 : decode cX9_parted 59 = .ok (.laload, 1) := by decide +kernel
theorem dX9_parted_60 : decode cX9_parted 60 = .ok (.ldc2_w 226, 3) := by decide +kernel
theorem dX9_parted_63 : decode cX9_parted 63 = .ok (.lcmp, 1) := by decide +kernel
theorem dX9_parted_64 : decode cX9_parted 64 = .ok (.ifCond .eq 51, 3) := by decide +kernel
theorem dX9_parted_67 : decode cX9_parted 67 = .ok (.aload_n 0, 1) := by decide +kernel
theorem dX9_parted_68 : decode cX9_parted 68 = .ok (.getfield 90, 3) := by decide +kernel
theorem dX9_parted_71 : decode cX9_parted 71 = .ok (.iload_n 1, 1) := by decide +kernel
theorem dX9_parted_72 : decode cX9_parted 72 = .ok (.laload, 1) := by decide +kernel
theorem dX9_parted_73 : decode cX9_parted 73 = .ok (.aload_n 0, 1) := by decide +kernel
theorem dX9_parted_74 : decode cX9_parted 74 = .ok (.getfield 90, 3) := by decide +kernel
theorem dX9_parted_77 : decode cX9_parted 77 = .ok (.iload_n 2, 1) := by decide +kernel
theorem dX9_parted_78 : decode cX9_parted 78 = .ok (.laload, 1) := by decide +kernel
theorem dX9_parted_79 : decode cX9_parted 79 = .ok (.ladd, 1) := by decide +kernel
theorem dX9_parted_80 : decode cX9_parted 80 = .ok (.aload_n 0, 1) := by decide +kernel
theorem dX9_parted_81 : decode cX9_parted 81 = .ok (.getfield 281, 3) := by decide +kernel
theorem dX9_parted_84 : decode cX9_parted 84 = .ok (.lcmp, 1) := by decide +kernel
theorem dX9_parted_85 : decode cX9_parted 85 = .ok (.ifCond .le 30, 3) := by decide +kernel
theorem dX9_parted_88 : decode cX9_parted 88 = .ok (.aload_n 0, 1) := by decide +kernel
theorem dX9_parted_89 : decode cX9_parted 89 = .ok (.aload_n 0, 1) := by decide +kernel
theorem dX9_parted_90 : decode cX9_parted 90 = .ok (.getfield 90, 3) := by decide +kernel
theorem dX9_parted_93 : decode cX9_parted 93 = .ok (.iload_n 1, 1) := by decide +kernel
theorem dX9_parted_94 : decode cX9_parted 94 = .ok (.laload, 1) := by decide +kernel
theorem dX9_parted_95 : decode cX9_parted 95 = .ok (.aload_n 0, 1) := by decide +kernel
theorem dX9_parted_96 : decode cX9_parted 96 = .ok (.getfield 90, 3) := by decide +kernel
theorem dX9_parted_99 : decode cX9_parted 99 = .ok (.iload_n 2, 1) := by decide +kernel
theorem dX9_parted_100 : decode cX9_parted 100 = .ok (.laload, 1) := by decide +kernel
theorem dX9_parted_101 : decode cX9_parted 101 = .ok (.ladd, 1) := by decide +kernel
theorem dX9_parted_102 : decode cX9_parted 102 = .ok (.putfield 281, 3) := by decide +kernel
theorem dX9_parted_105 : decode cX9_parted 105 = .ok (.aload_n 0, 1) := by decide +kernel
theorem dX9_parted_106 : decode cX9_parted 106 = .ok (.iload_n 1, 1) := by decide +kernel
theorem dX9_parted_107 : decode cX9_parted 107 = .ok (.putfield 284, 3) := by decide +kernel
theorem dX9_parted_110 : decode cX9_parted 110 = .ok (.aload_n 0, 1) := by decide +kernel
theorem dX9_parted_111 : decode cX9_parted 111 = .ok (.iload_n 2, 1) := by decide +kernel
theorem dX9_parted_112 : decode cX9_parted 112 = .ok (.putfield 287, 3) := by decide +kernel
theorem dX9_parted_115 : decode cX9_parted 115 = .ok (.iinc 2 1, 3) := by decide +kernel
theorem dX9_parted_118 : decode cX9_parted 118 = .ok (.goto (-93), 3) := by decide +kernel
theorem dX9_parted_121 : decode cX9_parted 121 = .ok (.iinc 1 1, 3) := by decide +kernel
theorem dX9_parted_124 : decode cX9_parted 124 = .ok (.goto (-111), 3) := by decide +kernel
theorem dX9_parted_127 : decode cX9_parted 127 = .ok (.return_, 1) := by decide +kernel
theorem dX9_both_0 : decode cX9_both 0 = .ok (.iload_n 1, 1) := by decide +kernel
theorem dX9_both_1 : decode cX9_both 1 = .ok (.iconst 0, 1) := by decide +kernel
theorem dX9_both_2 : decode cX9_both 2 = .ok (.iconst 1, 1) := by decide +kernel
theorem dX9_both_3 : decode cX9_both 3 = .ok (.invokestatic 114, 3) := by decide +kernel
theorem dX9_both_6 : decode cX9_both 6 = .ok (.ifCond .ne 9, 3) := by decide +kernel
theorem dX9_both_9 : decode cX9_both 9 = .ok (.bipush (-2), 2) := by decide +kernel
theorem dX9_both_11 : decode cX9_both 11 = .ok (.invokestatic 211, 3) := by decide +kernel
theorem dX9_both_14 : decode cX9_both 14 = .ok (.lreturn, 1) := by decide +kernel
theorem dX9_both_15 : decode cX9_both 15 = .ok (.aload_n 0, 1) := by decide +kernel
theorem dX9_both_16 : decode cX9_both 16 = .ok (.invokevirtual 274, 3) := by decide +kernel
theorem dX9_both_19 : decode cX9_both 19 = .ok (.ifCond .ne 9, 3) := by decide +kernel
theorem dX9_both_22 : decode cX9_both 22 = .ok (.bipush (-4), 2) := by decide +kernel
theorem dX9_both_24 : decode cX9_both 24 = .ok (.invokestatic 211, 3) := by decide +kernel
theorem dX9_both_27 : decode cX9_both 27 = .ok (.lreturn, 1) := by decide +kernel
theorem dX9_both_28 : decode cX9_both 28 = .ok (.aload_n 0, 1) := by decide +kernel
theorem dX9_both_29 : decode cX9_both 29 = .ok (.invokevirtual 290, 3) := by decide +kernel
theorem dX9_both_32 : decode cX9_both 32 = .ok (.aload_n 0, 1) := by decide +kernel
theorem dX9_both_33 : decode cX9_both 33 = .ok (.getfield 281, 3) := by decide +kernel
theorem dX9_both_36 : decode cX9_both 36 = .ok (.iconst 5, 1) := by decide +kernel
theorem dX9_both_37 : decode cX9_both 37 = .ok (.invokestatic 193, 3) := by decide +kernel
theorem dX9_both_40 : decode cX9_both 40 = .ok (.iload_n 1, 1) := by decide +kernel
theorem dX9_both_41 : decode cX9_both 41 = .ok (.invokestatic 214, 3) := by decide +kernel
theorem dX9_both_44 : decode cX9_both 44 = .ok (.lreturn, 1) := by decide +kernel
theorem dX9_boundNow_0 : decode cX9_boundNow 0 = .ok (.aload_n 0, 1) := by decide +kernel
theorem dX9_boundNow_1 : decode cX9_boundNow 1 = .ok (.invokevirtual 199, 3) := by decide +kernel
theorem dX9_boundNow_4 : decode cX9_boundNow 4 = .ok (.iconst 0, 1) := by decide +kernel
theorem dX9_boundNow_5 : decode cX9_boundNow 5 = .ok (.istore_n 2, 1) := by decide +kernel
theorem dX9_boundNow_6 : decode cX9_boundNow 6 = .ok (.aload_n 0, 1) := by decide +kernel
theorem dX9_boundNow_7 : decode cX9_boundNow 7 = .ok (.getfield 32, 3) := by decide +kernel
theorem dX9_boundNow_10 : decode cX9_boundNow 10 = .ok (.istore_n 3, 1) := by decide +kernel
theorem dX9_boundNow_11 : decode cX9_boundNow 11 = .ok (.lconst 0, 1) := by decide +kernel
theorem dX9_boundNow_12 : decode cX9_boundNow 12 = .ok (.lstore 4, 2) := by decide +kernel
theorem dX9_boundNow_14 : decode cX9_boundNow 14 = .ok (.iconst (-1), 1) := by decide +kernel
theorem dX9_boundNow_15 : decode cX9_boundNow 15 = .ok (.istore 6, 2) := by decide +kernel
theorem dX9_boundNow_17 : decode cX9_boundNow 17 = .ok (.lconst 0, 1) := by decide +kernel
theorem dX9_boundNow_18 : decode cX9_boundNow 18 = .ok (.lstore 7, 2) := by decide +kernel
theorem dX9_boundNow_20 : decode cX9_boundNow 20 = .ok (.iconst 0, 1) := by decide +kernel
theorem dX9_boundNow_21 : decode cX9_boundNow 21 = .ok (.istore 9, 2) := by decide +kernel
theorem dX9_boundNow_23 : decode cX9_boundNow 23 = .ok (.iload 9, 2) := by decide +kernel
theorem dX9_boundNow_25 : decode cX9_boundNow 25 = .ok (.bipush 24, 2) := by decide +kernel
theorem dX9_boundNow_27 : decode cX9_boundNow 27 = .ok (.if_icmp .ge 98, 3) := by decide +kernel
theorem dX9_boundNow_30 : decode cX9_boundNow 30 = .ok (.iload 9, 2) := by decide +kernel
theorem dX9_boundNow_32 : decode cX9_boundNow 32 = .ok (.iconst 4, 1) := by decide +kernel
theorem dX9_boundNow_33 : decode cX9_boundNow 33 = .ok (.idiv, 1) := by decide +kernel
theorem dX9_boundNow_34 : decode cX9_boundNow 34 = .ok (.istore 10, 2) := by decide +kernel
theorem dX9_boundNow_36 : decode cX9_boundNow 36 = .ok (.aload_n 0, 1) := by decide +kernel
theorem dX9_boundNow_37 : decode cX9_boundNow 37 = .ok (.iload 10, 2) := by decide +kernel
theorem dX9_boundNow_39 : decode cX9_boundNow 39 = .ok (.iload 9, 2) := by decide +kernel
theorem dX9_boundNow_41 : decode cX9_boundNow 41 = .ok (.iconst 4, 1) := by decide +kernel
theorem dX9_boundNow_42 : decode cX9_boundNow 42 = .ok (.irem, 1) := by decide +kernel
theorem dX9_boundNow_43 : decode cX9_boundNow 43 = .ok (.iconst 1, 1) := by decide +kernel
theorem dX9_boundNow_44 : decode cX9_boundNow 44 = .ok (.iadd, 1) := by decide +kernel
theorem dX9_boundNow_45 : decode cX9_boundNow 45 = .ok (.invokevirtual 218, 3) := by decide +kernel
theorem dX9_boundNow_48 : decode cX9_boundNow 48 = .ok (.aload_n 0, 1) := by decide +kernel
theorem dX9_boundNow_49 : decode cX9_boundNow 49 = .ok (.iload 10, 2) := by decide +kernel
theorem dX9_boundNow_51 : decode cX9_boundNow 51 = .ok (.iload 9, 2) := by decide +kernel
theorem dX9_boundNow_53 : decode cX9_boundNow 53 = .ok (.iconst 4, 1) := by decide +kernel
theorem dX9_boundNow_54 : decode cX9_boundNow 54 = .ok (.irem, 1) := by decide +kernel
theorem dX9_boundNow_55 : decode cX9_boundNow 55 = .ok (.invokevirtual 218, 3) := by decide +kernel
theorem dX9_boundNow_58 : decode cX9_boundNow 58 = .ok (.lsub, 1) := by decide +kernel
theorem dX9_boundNow_59 : decode cX9_boundNow 59 = .ok (.lstore 11, 2) := by decide +kernel
theorem dX9_boundNow_61 : decode cX9_boundNow 61 = .ok (.iload_n 2, 1) := by decide +kernel
theorem dX9_boundNow_62 : decode cX9_boundNow 62 = .ok (.iload 9, 2) := by decide +kernel
theorem dX9_boundNow_64 : decode cX9_boundNow 64 = .ok (.ishr, 1) := by decide +kernel
theorem dX9_boundNow_65 : decode cX9_boundNow 65 = .ok (.iconst 1, 1) := by decide +kernel
theorem dX9_boundNow_66 : decode cX9_boundNow 66 = .ok (.iand, 1) := by decide +kernel
theorem dX9_boundNow_67 : decode cX9_boundNow 67 = .ok (.ifCond .ne 52, 3) := by decide +kernel
theorem dX9_boundNow_70 : decode cX9_boundNow 70 = .ok (.lload 11, 2) := by decide +kernel
theorem dX9_boundNow_72 : decode cX9_boundNow 72 = .ok (.lconst 0, 1) := by decide +kernel
theorem dX9_boundNow_73 : decode cX9_boundNow 73 = .ok (.lcmp, 1) := by decide +kernel
theorem dX9_boundNow_74 : decode cX9_boundNow 74 = .ok (.ifCond .le 45, 3) := by decide +kernel
theorem dX9_boundNow_77 : decode cX9_boundNow 77 = .ok (.iload 6, 2) := by decide +kernel
theorem dX9_boundNow_79 : decode cX9_boundNow 79 = .ok (.iconst (-1), 1) := by decide +kernel
theorem dX9_boundNow_80 : decode cX9_boundNow 80 = .ok (.if_icmp .eq 31, 3) := by decide +kernel
theorem dX9_boundNow_83 : decode cX9_boundNow 83 = .ok (.lload 11, 2) := by decide +kernel
theorem dX9_boundNow_85 : decode cX9_boundNow 85 = .ok (.aload_n 0, 1) := by decide +kernel
theorem dX9_boundNow_86 : decode cX9_boundNow 86 = .ok (.getfield 13, 3) := by decide +kernel
theorem dX9_boundNow_89 : decode cX9_boundNow 89 = .ok (.iload 6, 2) := by decide +kernel
theorem dX9_boundNow_91 : decode cX9_boundNow 91 = .ok (.iconst 4, 1) := by decide +kernel
theorem dX9_boundNow_92 : decode cX9_boundNow 92 = .ok (.idiv, 1) := by decide +kernel
theorem dX9_boundNow_93 : decode cX9_boundNow 93 = .ok (.iaload, 1) := by decide +kernel
theorem dX9_boundNow_94 : decode cX9_boundNow 94 = .ok (.i2l, 1) := by decide +kernel
theorem dX9_boundNow_95 : decode cX9_boundNow 95 = .ok (.lmul, 1) := by decide +kernel
theorem dX9_boundNow_96 : decode cX9_boundNow 96 = .ok (.lload 7, 2) := by decide +kernel
theorem dX9_boundNow_98 : decode cX9_boundNow 98 = .ok (.aload_n 0, 1) := by decide +kernel
theorem dX9_boundNow_99 : decode cX9_boundNow 99 = .ok (.getfield 13, 3) := by decide +kernel
theorem dX9_boundNow_102 : decode cX9_boundNow 102 = .ok (.iload 10, 2) := by decide +kernel
theorem dX9_boundNow_104 : decode cX9_boundNow 104 = .ok (.iaload, 1) := by decide +kernel
theorem dX9_boundNow_105 : decode cX9_boundNow 105 = .ok (.i2l, 1) := by decide +kernel
theorem dX9_boundNow_106 : decode cX9_boundNow 106 = .ok (.lmul, 1) := by decide +kernel
theorem dX9_boundNow_107 : decode cX9_boundNow 107 = .ok (.lcmp, 1) := by decide +kernel
theorem dX9_boundNow_108 : decode cX9_boundNow 108 = .ok (.ifCond .le 11, 3) := by decide +kernel
theorem dX9_boundNow_111 : decode cX9_boundNow 111 = .ok (.iload 9, 2) := by decide +kernel
theorem dX9_boundNow_113 : decode cX9_boundNow 113 = .ok (.istore 6, 2) := by decide +kernel
theorem dX9_boundNow_115 : decode cX9_boundNow 115 = .ok (.lload 11, 2) := by decide +kernel
theorem dX9_boundNow_117 : decode cX9_boundNow 117 = .ok (.lstore 7, 2) := by decide +kernel
theorem dX9_boundNow_119 : decode cX9_boundNow 119 = .ok (.iinc 9 1, 3) := by decide +kernel
theorem dX9_boundNow_122 : decode cX9_boundNow 122 = .ok (.goto (-99), 3) := by decide +kernel
theorem dX9_boundNow_125 : decode cX9_boundNow 125 = .ok (.iload 6, 2) := by decide +kernel
theorem dX9_boundNow_127 : decode cX9_boundNow 127 = .ok (.iconst (-1), 1) := by decide +kernel
theorem dX9_boundNow_128 : decode cX9_boundNow 128 = .ok (.if_icmp .eq 7, 3) := by decide +kernel
theorem dX9_boundNow_131 : decode cX9_boundNow 131 = .ok (.iload_n 3, 1) := by decide +kernel
theorem dX9_boundNow_132 : decode cX9_boundNow 132 = .ok (.ifCond .ne 17, 3) := by decide +kernel
theorem dX9_boundNow_135 : decode cX9_boundNow 135 = .ok (.lload 4, 2) := by decide +kernel
theorem dX9_boundNow_137 : decode cX9_boundNow 137 = .ok (.aload_n 0, 1) := by decide +kernel
theorem dX9_boundNow_138 : decode cX9_boundNow 138 = .ok (.getfield 184, 3) := by decide +kernel
theorem dX9_boundNow_141 : decode cX9_boundNow 141 = .ok (.invokestatic 193, 3) := by decide +kernel
theorem dX9_boundNow_144 : decode cX9_boundNow 144 = .ok (.iload_n 1, 1) := by decide +kernel
theorem dX9_boundNow_145 : decode cX9_boundNow 145 = .ok (.invokestatic 214, 3) := by decide +kernel
theorem dX9_boundNow_148 : decode cX9_boundNow 148 = .ok (.lreturn, 1) := by decide +kernel
theorem dX9_boundNow_149 : decode cX9_boundNow 149 = .ok (.aload_n 0, 1) := by decide +kernel
theorem dX9_boundNow_150 : decode cX9_boundNow 150 = .ok (.getfield 13, 3) := by decide +kernel
theorem dX9_boundNow_153 : decode cX9_boundNow 153 = .ok (.iload 6, 2) := by decide +kernel
theorem dX9_boundNow_155 : decode cX9_boundNow 155 = .ok (.iconst 4, 1) := by decide +kernel
theorem dX9_boundNow_156 : decode cX9_boundNow 156 = .ok (.idiv, 1) := by decide +kernel
theorem dX9_boundNow_157 : decode cX9_boundNow 157 = .ok (.iaload, 1) := by decide +kernel
theorem dX9_boundNow_158 : decode cX9_boundNow 158 = .ok (.istore 9, 2) := by decide +kernel
theorem dX9_boundNow_160 : decode cX9_boundNow 160 = .ok (.iload 9, 2) := by decide +kernel
theorem dX9_boundNow_162 : decode cX9_boundNow 162 = .ok (.iload_n 3, 1) := by decide +kernel
theorem dX9_boundNow_163 : decode cX9_boundNow 163 = .ok (.if_icmp .le 31, 3) := by decide +kernel
theorem dX9_boundNow_166 : decode cX9_boundNow 166 = .ok (.lload 4, 2) := by decide +kernel
theorem dX9_boundNow_168 : decode cX9_boundNow 168 = .ok (.iload 9, 2) := by decide +kernel
theorem dX9_boundNow_170 : decode cX9_boundNow 170 = .ok (.i2l, 1) := by decide +kernel
theorem dX9_boundNow_171 : decode cX9_boundNow 171 = .ok (.lmul, 1) := by decide +kernel
theorem dX9_boundNow_172 : decode cX9_boundNow 172 = .ok (.lload 7, 2) := by decide +kernel
theorem dX9_boundNow_174 : decode cX9_boundNow 174 = .ok (.iload_n 3, 1) := by decide +kernel
theorem dX9_boundNow_175 : decode cX9_boundNow 175 = .ok (.i2l, 1) := by decide +kernel
theorem dX9_boundNow_176 : decode cX9_boundNow 176 = .ok (.lmul, 1) := by decide +kernel
theorem dX9_boundNow_177 : decode cX9_boundNow 177 = .ok (.ladd, 1) := by decide +kernel
theorem dX9_boundNow_178 : decode cX9_boundNow 178 = .ok (.aload_n 0, 1) := by decide +kernel
theorem dX9_boundNow_179 : decode cX9_boundNow 179 = .ok (.getfield 184, 3) := by decide +kernel
theorem dX9_boundNow_182 : decode cX9_boundNow 182 = .ok (.invokestatic 193, 3) := by decide +kernel
theorem dX9_boundNow_185 : decode cX9_boundNow 185 = .ok (.iload 9, 2) := by decide +kernel
theorem dX9_boundNow_187 : decode cX9_boundNow 187 = .ok (.i2l, 1) := by decide +kernel
theorem dX9_boundNow_188 : decode cX9_boundNow 188 = .ok (.lmul, 1) := by decide +kernel
theorem dX9_boundNow_189 : decode cX9_boundNow 189 = .ok (.iload_n 1, 1) := by decide +kernel
theorem dX9_boundNow_190 : decode cX9_boundNow 190 = .ok (.invokestatic 214, 3) := by decide +kernel
theorem dX9_boundNow_193 : decode cX9_boundNow 193 = .ok (.lreturn, 1) := by decide +kernel
theorem dX9_boundNow_194 : decode cX9_boundNow 194 = .ok (.iload_n 2, 1) := by decide +kernel
theorem dX9_boundNow_195 : decode cX9_boundNow 195 = .ok (.iconst 1, 1) := by decide +kernel
theorem dX9_boundNow_196 : decode cX9_boundNow 196 = .ok (.iload 6, 2) := by decide +kernel
theorem dX9_boundNow_198 : decode cX9_boundNow 198 = .ok (.ishl, 1) := by decide +kernel
theorem dX9_boundNow_199 : decode cX9_boundNow 199 = .ok (.ior, 1) := by decide +kernel
theorem dX9_boundNow_200 : decode cX9_boundNow 200 = .ok (.istore_n 2, 1) := by decide +kernel
theorem dX9_boundNow_201 : decode cX9_boundNow 201 = .ok (.iload_n 3, 1) := by decide +kernel
theorem dX9_boundNow_202 : decode cX9_boundNow 202 = .ok (.iload 9, 2) := by decide +kernel
theorem dX9_boundNow_204 : decode cX9_boundNow 204 = .ok (.isub, 1) := by decide +kernel
theorem dX9_boundNow_205 : decode cX9_boundNow 205 = .ok (.istore_n 3, 1) := by decide +kernel
theorem dX9_boundNow_206 : decode cX9_boundNow 206 = .ok (.lload 4, 2) := by decide +kernel
theorem dX9_boundNow_208 : decode cX9_boundNow 208 = .ok (.lload 7, 2) := by decide +kernel
theorem dX9_boundNow_210 : decode cX9_boundNow 210 = .ok (.ladd, 1) := by decide +kernel
theorem dX9_boundNow_211 : decode cX9_boundNow 211 = .ok (.lstore 4, 2) := by decide +kernel
theorem dX9_boundNow_213 : decode cX9_boundNow 213 = .ok (.goto (-199), 3) := by decide +kernel
theorem dX9_bringsNow_0 : decode cX9_bringsNow 0 = .ok (.aload_n 0, 1) := by decide +kernel
theorem dX9_bringsNow_1 : decode cX9_bringsNow 1 = .ok (.iconst (-1), 1) := by decide +kernel
theorem dX9_bringsNow_2 : decode cX9_bringsNow 2 = .ok (.invokevirtual 232, 3) := by decide +kernel
theorem dX9_bringsNow_5 : decode cX9_bringsNow 5 = .ok (.aload_n 0, 1) := by decide +kernel
theorem dX9_bringsNow_6 : decode cX9_bringsNow 6 = .ok (.getfield 228, 3) := by decide +kernel
theorem dX9_bringsNow_9 : decode cX9_bringsNow 9 = .ok (.lstore_n 2, 1) := by decide +kernel
theorem dX9_bringsNow_10 : decode cX9_bringsNow 10 = .ok (.aload_n 0, 1) := by decide +kernel
theorem dX9_bringsNow_11 : decode cX9_bringsNow 11 = .ok (.iload_n 1, 1) := by decide +kernel
theorem dX9_bringsNow_12 : decode cX9_bringsNow 12 = .ok (.invokevirtual 232, 3) := by decide +kernel
theorem dX9_bringsNow_15 : decode cX9_bringsNow 15 = .ok (.lload_n 2, 1) := by decide +kernel
theorem dX9_bringsNow_16 : decode cX9_bringsNow 16 = .ok (.aload_n 0, 1) := by decide +kernel
theorem dX9_bringsNow_17 : decode cX9_bringsNow 17 = .ok (.getfield 228, 3) := by decide +kernel
theorem dX9_bringsNow_20 : decode cX9_bringsNow 20 = .ok (.lsub, 1) := by decide +kernel
theorem dX9_bringsNow_21 : decode cX9_bringsNow 21 = .ok (.lreturn, 1) := by decide +kernel
theorem dX9_brings_0 : decode cX9_brings 0 = .ok (.iload_n 1, 1) := by decide +kernel
theorem dX9_brings_1 : decode cX9_brings 1 = .ok (.invokestatic 118, 3) := by decide +kernel
theorem dX9_brings_4 : decode cX9_brings 4 = .ok (.ifCond .eq 12, 3) := by decide +kernel
theorem dX9_brings_7 : decode cX9_brings 7 = .ok (.iload_n 2, 1) := by decide +kernel
theorem dX9_brings_8 : decode cX9_brings 8 = .ok (.iconst 0, 1) := by decide +kernel
theorem dX9_brings_9 : decode cX9_brings 9 = .ok (.iconst 1, 1) := by decide +kernel
theorem dX9_brings_10 : decode cX9_brings 10 = .ok (.invokestatic 114, 3) := by decide +kernel
theorem dX9_brings_13 : decode cX9_brings 13 = .ok (.ifCond .ne 9, 3) := by decide +kernel
theorem dX9_brings_16 : decode cX9_brings 16 = .ok (.bipush (-2), 2) := by decide +kernel
theorem dX9_brings_18 : decode cX9_brings 18 = .ok (.invokestatic 211, 3) := by decide +kernel
theorem dX9_brings_21 : decode cX9_brings 21 = .ok (.lreturn, 1) := by decide +kernel
theorem dX9_brings_22 : decode cX9_brings 22 = .ok (.aload_n 0, 1) := by decide +kernel
theorem dX9_brings_23 : decode cX9_brings 23 = .ok (.invokevirtual 199, 3) := by decide +kernel
theorem dX9_brings_26 : decode cX9_brings 26 = .ok (.aload_n 0, 1) := by decide +kernel
theorem dX9_brings_27 : decode cX9_brings 27 = .ok (.iload_n 1, 1) := by decide +kernel
theorem dX9_brings_28 : decode cX9_brings 28 = .ok (.invokevirtual 293, 3) := by decide +kernel
theorem dX9_brings_31 : decode cX9_brings 31 = .ok (.aload_n 0, 1) := by decide +kernel
theorem dX9_brings_32 : decode cX9_brings 32 = .ok (.getfield 178, 3) := by decide +kernel
theorem dX9_brings_35 : decode cX9_brings 35 = .ok (.invokestatic 193, 3) := by decide +kernel
theorem dX9_brings_38 : decode cX9_brings 38 = .ok (.iload_n 2, 1) := by decide +kernel
theorem dX9_brings_39 : decode cX9_brings 39 = .ok (.invokestatic 214, 3) := by decide +kernel
theorem dX9_brings_42 : decode cX9_brings 42 = .ok (.lreturn, 1) := by decide +kernel
theorem dX9_byteNow_0 : decode cX9_byteNow 0 = .ok (.aload_n 0, 1) := by decide +kernel
theorem dX9_byteNow_1 : decode cX9_byteNow 1 = .ok (.getfield 135, 3) := by decide +kernel
theorem dX9_byteNow_4 : decode cX9_byteNow 4 = .ok (.aload_n 0, 1) := by decide +kernel
theorem dX9_byteNow_5 : decode cX9_byteNow 5 = .ok (.getfield 132, 3) := by decide +kernel
theorem dX9_byteNow_8 : decode cX9_byteNow 8 = .ok (.if_icmp .ge 15, 3) := by decide +kernel
theorem dX9_byteNow_11 : decode cX9_byteNow 11 = .ok (.aload_n 0, 1) := by decide +kernel
theorem dX9_byteNow_12 : decode cX9_byteNow 12 = .ok (.getfield 44, 3) := by decide +kernel
theorem dX9_byteNow_15 : decode cX9_byteNow 15 = .ok (.aload_n 0, 1) := by decide +kernel
theorem dX9_byteNow_16 : decode cX9_byteNow 16 = .ok (.getfield 135, 3) := by decide +kernel
theorem dX9_byteNow_19 : decode cX9_byteNow 19 = .ok (.iaload, 1) := by decide +kernel
theorem dX9_byteNow_20 : decode cX9_byteNow 20 = .ok (.goto 4, 3) := by decide +kernel
theorem dX9_byteNow_23 : decode cX9_byteNow 23 = .ok (.iconst (-1), 1) := by decide +kernel
theorem dX9_byteNow_24 : decode cX9_byteNow 24 = .ok (.ireturn, 1) := by decide +kernel
theorem dX9_isFarm_0 : decode cX9_isFarm 0 = .ok (.iload_n 0, 1) := by decide +kernel
theorem dX9_isFarm_1 : decode cX9_isFarm 1 = .ok (.iconst 1, 1) := by decide +kernel
theorem dX9_isFarm_2 : decode cX9_isFarm 2 = .ok (.bipush 7, 2) := by decide +kernel
theorem dX9_isFarm_4 : decode cX9_isFarm 4 = .ok (.invokestatic 114, 3) := by decide +kernel
theorem dX9_isFarm_7 : decode cX9_isFarm 7 = .ok (.ireturn, 1) := by decide +kernel
theorem dX9_chance_0 : decode cX9_chance 0 = .ok (.iload_n 1, 1) := by decide +kernel
theorem dX9_chance_1 : decode cX9_chance 1 = .ok (.invokestatic 168, 3) := by decide +kernel
theorem dX9_chance_4 : decode cX9_chance 4 = .ok (.ifCond .eq 29, 3) := by decide +kernel
theorem dX9_chance_7 : decode cX9_chance 7 = .ok (.iload_n 2, 1) := by decide +kernel
theorem dX9_chance_8 : decode cX9_chance 8 = .ok (.invokestatic 118, 3) := by decide +kernel
theorem dX9_chance_11 : decode cX9_chance 11 = .ok (.ifCond .eq 22, 3) := by decide +kernel
theorem dX9_chance_14 : decode cX9_chance 14 = .ok (.iload_n 3, 1) := by decide +kernel
theorem dX9_chance_15 : decode cX9_chance 15 = .ok (.iconst 0, 1) := by decide +kernel
theorem dX9_chance_16 : decode cX9_chance 16 = .ok (.iconst 2, 1) := by decide +kernel
theorem dX9_chance_17 : decode cX9_chance 17 = .ok (.invokestatic 114, 3) := by decide +kernel
theorem dX9_chance_20 : decode cX9_chance 20 = .ok (.ifCond .eq 13, 3) := by decide +kernel
theorem dX9_chance_23 : decode cX9_chance 23 = .ok (.aload_n 0, 1) := by decide +kernel
theorem dX9_chance_24 : decode cX9_chance 24 = .ok (.iload_n 1, 1) := by decide +kernel
theorem dX9_chance_25 : decode cX9_chance 25 = .ok (.iload_n 2, 1) := by decide +kernel
theorem dX9_chance_26 : decode cX9_chance 26 = .ok (.iload_n 3, 1) := by decide +kernel
theorem dX9_chance_27 : decode cX9_chance 27 = .ok (.invokevirtual 175, 3) := by decide +kernel
theorem dX9_chance_30 : decode cX9_chance 30 = .ok (.goto 5, 3) := by decide +kernel
theorem dX9_chance_33 : decode cX9_chance 33 = .ok (.bipush (-2), 2) := by decide +kernel
theorem dX9_chance_35 : decode cX9_chance 35 = .ok (.ireturn, 1) := by decide +kernel
theorem dX9_isSheet_0 : decode cX9_isSheet 0 = .ok (.iload_n 0, 1) := by decide +kernel
theorem dX9_isSheet_1 : decode cX9_isSheet 1 = .ok (.iconst 0, 1) := by decide +kernel
theorem dX9_isSheet_2 : decode cX9_isSheet 2 = .ok (.iconst 3, 1) := by decide +kernel
theorem dX9_isSheet_3 : decode cX9_isSheet 3 = .ok (.invokestatic 114, 3) := by decide +kernel
theorem dX9_isSheet_6 : decode cX9_isSheet 6 = .ok (.ireturn, 1) := by decide +kernel
theorem dX9_meets_0 : decode cX9_meets 0 = .ok (.aload_n 0, 1) := by decide +kernel
theorem dX9_meets_1 : decode cX9_meets 1 = .ok (.iload_n 1, 1) := by decide +kernel
theorem dX9_meets_2 : decode cX9_meets 2 = .ok (.putfield 299, 3) := by decide +kernel
theorem dX9_meets_5 : decode cX9_meets 5 = .ok (.bipush (-10), 2) := by decide +kernel
theorem dX9_meets_7 : decode cX9_meets 7 = .ok (.iload_n 1, 1) := by decide +kernel
theorem dX9_meets_8 : decode cX9_meets 8 = .ok (.isub, 1) := by decide +kernel
theorem dX9_meets_9 : decode cX9_meets 9 = .ok (.ireturn, 1) := by decide +kernel
theorem dX9_copy_0 : decode cX9_copy 0 = .ok (.iload_n 1, 1) := by decide +kernel
theorem dX9_copy_1 : decode cX9_copy 1 = .ok (.invokestatic 165, 3) := by decide +kernel
theorem dX9_copy_4 : decode cX9_copy 4 = .ok (.ifCond .eq 10, 3) := by decide +kernel
theorem dX9_copy_7 : decode cX9_copy 7 = .ok (.iload_n 3, 1) := by decide +kernel
theorem dX9_copy_8 : decode cX9_copy 8 = .ok (.invokestatic 165, 3) := by decide +kernel
theorem dX9_copy_11 : decode cX9_copy 11 = .ok (.ifCond .ne 6, 3) := by decide +kernel
theorem dX9_copy_14 : decode cX9_copy 14 = .ok (.bipush (-2), 2) := by decide +kernel
theorem dX9_copy_16 : decode cX9_copy 16 = .ok (.ireturn, 1) := by decide +kernel
theorem dX9_copy_17 : decode cX9_copy 17 = .ok (.aload_n 0, 1) := by decide +kernel
theorem dX9_copy_18 : decode cX9_copy 18 = .ok (.getfield 96, 3) := by decide +kernel
theorem dX9_copy_21 : decode cX9_copy 21 = .ok (.iload_n 1, 1) := by decide +kernel
theorem dX9_copy_22 : decode cX9_copy 22 = .ok (.baload, 1) := by decide +kernel
theorem dX9_copy_23 : decode cX9_copy 23 = .ok (.ifCond .eq 12, 3) := by decide +kernel
theorem dX9_copy_26 : decode cX9_copy 26 = .ok (.aload_n 0, 1) := by decide +kernel
theorem dX9_copy_27 : decode cX9_copy 27 = .ok (.getfield 96, 3) := by decide +kernel
theorem dX9_copy_30 : decode cX9_copy 30 = .ok (.iload_n 3, 1) := by decide +kernel
theorem dX9_copy_31 : decode cX9_copy 31 = .ok (.baload, 1) := by decide +kernel
theorem dX9_copy_32 : decode cX9_copy 32 = .ok (.ifCond .ne 9, 3) := by decide +kernel
theorem dX9_copy_35 : decode cX9_copy 35 = .ok (.aload_n 0, 1) := by decide +kernel
theorem dX9_copy_36 : decode cX9_copy 36 = .ok (.iconst 1, 1) := by decide +kernel
theorem dX9_copy_37 : decode cX9_copy 37 = .ok (.invokevirtual 171, 3) := by decide +kernel
theorem dX9_copy_40 : decode cX9_copy 40 = .ok (.ireturn, 1) := by decide +kernel
theorem dX9_copy_41 : decode cX9_copy 41 = .ok (.aload_n 0, 1) := by decide +kernel
theorem dX9_copy_42 : decode cX9_copy 42 = .ok (.getfield 100, 3) := by decide +kernel
theorem dX9_copy_45 : decode cX9_copy 45 = .ok (.iload_n 1, 1) := by decide +kernel
theorem dX9_copy_46 : decode cX9_copy 46 = .ok (.iaload, 1) := by decide +kernel
theorem dX9_copy_47 : decode cX9_copy 47 = .ok (.aload_n 0, 1) := by decide +kernel
theorem dX9_copy_48 : decode cX9_copy 48 = .ok (.getfield 100, 3) := by decide +kernel
theorem dX9_copy_51 : decode cX9_copy 51 = .ok (.iload_n 3, 1) := by decide +kernel
theorem dX9_copy_52 : decode cX9_copy 52 = .ok (.iaload, 1) := by decide +kernel
theorem dX9_copy_53 : decode cX9_copy 53 = .ok (.if_icmp .eq 9, 3) := by decide +kernel
theorem dX9_copy_56 : decode cX9_copy 56 = .ok (.aload_n 0, 1) := by decide +kernel
theorem dX9_copy_57 : decode cX9_copy 57 = .ok (.iconst 4, 1) := by decide +kernel
theorem dX9_copy_58 : decode cX9_copy 58 = .ok (.invokevirtual 171, 3) := by decide +kernel
theorem dX9_copy_61 : decode cX9_copy 61 = .ok (.ireturn, 1) := by decide +kernel
theorem dX9_copy_62 : decode cX9_copy 62 = .ok (.iload_n 2, 1) := by decide +kernel
theorem dX9_copy_63 : decode cX9_copy 63 = .ok (.ifCond .lt 48, 3) := by decide +kernel
theorem dX9_copy_66 : decode cX9_copy 66 = .ok (.iload 4, 2) := by decide +kernel
theorem dX9_copy_68 : decode cX9_copy 68 = .ok (.ifCond .lt 43, 3) := by decide +kernel
theorem dX9_copy_71 : decode cX9_copy 71 = .ok (.iload 5, 2) := by decide +kernel
theorem dX9_copy_73 : decode cX9_copy 73 = .ok (.ifCond .lt 38, 3) := by decide +kernel
theorem dX9_copy_76 : decode cX9_copy 76 = .ok (.iload_n 2, 1) := by decide +kernel
theorem dX9_copy_77 : decode cX9_copy 77 = .ok (.i2l, 1) := by decide +kernel
theorem dX9_copy_78 : decode cX9_copy 78 = .ok (.iload 5, 2) := by decide +kernel
theorem dX9_copy_80 : decode cX9_copy 80 = .ok (.i2l, 1) := by decide +kernel
theorem dX9_copy_81 : decode cX9_copy 81 = .ok (.ladd, 1) := by decide +kernel
theorem dX9_copy_82 : decode cX9_copy 82 = .ok (.aload_n 0, 1) := by decide +kernel
theorem dX9_copy_83 : decode cX9_copy 83 = .ok (.getfield 103, 3) := by decide +kernel
theorem dX9_copy_86 : decode cX9_copy 86 = .ok (.iload_n 1, 1) := by decide +kernel
theorem dX9_copy_87 : decode cX9_copy 87 = .ok (.iaload, 1) := by decide +kernel
theorem dX9_copy_88 : decode cX9_copy 88 = .ok (.i2l, 1) := by decide +kernel
theorem dX9_copy_89 : decode cX9_copy 89 = .ok (.lcmp, 1) := by decide +kernel
theorem dX9_copy_90 : decode cX9_copy 90 = .ok (.ifCond .gt 21, 3) := by decide +kernel
theorem dX9_copy_93 : decode cX9_copy 93 = .ok (.iload 4, 2) := by decide +kernel
theorem dX9_copy_95 : decode cX9_copy 95 = .ok (.i2l, 1) := by decide +kernel
theorem dX9_copy_96 : decode cX9_copy 96 = .ok (.iload 5, 2) := by decide +kernel
theorem dX9_copy_98 : decode cX9_copy 98 = .ok (.i2l, 1) := by decide +kernel
theorem dX9_copy_99 : decode cX9_copy 99 = .ok (.ladd, 1) := by decide +kernel
theorem dX9_copy_100 : decode cX9_copy 100 = .ok (.aload_n 0, 1) := by decide +kernel
theorem dX9_copy_101 : decode cX9_copy 101 = .ok (.getfield 103, 3) := by decide +kernel
theorem dX9_copy_104 : decode cX9_copy 104 = .ok (.iload_n 3, 1) := by decide +kernel
theorem dX9_copy_105 : decode cX9_copy 105 = .ok (.iaload, 1) := by decide +kernel
theorem dX9_copy_106 : decode cX9_copy 106 = .ok (.i2l, 1) := by decide +kernel
theorem dX9_copy_107 : decode cX9_copy 107 = .ok (.lcmp, 1) := by decide +kernel
theorem dX9_copy_108 : decode cX9_copy 108 = .ok (.ifCond .le 9, 3) := by decide +kernel
theorem dX9_copy_111 : decode cX9_copy 111 = .ok (.aload_n 0, 1) := by decide +kernel
theorem dX9_copy_112 : decode cX9_copy 112 = .ok (.iconst 2, 1) := by decide +kernel
theorem dX9_copy_113 : decode cX9_copy 113 = .ok (.invokevirtual 171, 3) := by decide +kernel
theorem dX9_copy_116 : decode cX9_copy 116 = .ok (.ireturn, 1) := by decide +kernel
theorem dX9_copy_117 : decode cX9_copy 117 = .ok (.iconst 0, 1) := by decide +kernel
theorem dX9_copy_118 : decode cX9_copy 118 = .ok (.istore 6, 2) := by decide +kernel
theorem dX9_copy_120 : decode cX9_copy 120 = .ok (.iload 6, 2) := by decide +kernel
theorem dX9_copy_122 : decode cX9_copy 122 = .ok (.iload 5, 2) := by decide +kernel
theorem dX9_copy_124 : decode cX9_copy 124 = .ok (.if_icmp .ge 30, 3) := by decide +kernel
theorem dX9_copy_127 : decode cX9_copy 127 = .ok (.aload_n 0, 1) := by decide +kernel
theorem dX9_copy_128 : decode cX9_copy 128 = .ok (.getfield 109, 3) := by decide +kernel
theorem dX9_copy_131 : decode cX9_copy 131 = .ok (.iload 6, 2) := by decide +kernel
theorem dX9_copy_133 : decode cX9_copy 133 = .ok (.aload_n 0, 1) := by decide +kernel
theorem dX9_copy_134 : decode cX9_copy 134 = .ok (.getfield 106, 3) := by decide +kernel
theorem dX9_copy_137 : decode cX9_copy 137 = .ok (.bipush 40, 2) := by decide +kernel
theorem dX9_copy_139 : decode cX9_copy 139 = .ok (.iload_n 1, 1) := by decide +kernel
theorem dX9_copy_140 : decode cX9_copy 140 = .ok (.imul, 1) := by decide +kernel
theorem dX9_copy_141 : decode cX9_copy 141 = .ok (.iload_n 2, 1) := by decide +kernel
theorem dX9_copy_142 : decode cX9_copy 142 = .ok (.iadd, 1) := by decide +kernel
theorem dX9_copy_143 : decode cX9_copy 143 = .ok (.iload 6, 2) := by decide +kernel
theorem dX9_copy_145 : decode cX9_copy 145 = .ok (.iadd, 1) := by decide +kernel
theorem dX9_copy_146 : decode cX9_copy 146 = .ok (.iaload, 1) := by decide +kernel
theorem dX9_copy_147 : decode cX9_copy 147 = .ok (.iastore, 1) := by decide +kernel
theorem dX9_copy_148 : decode cX9_copy 148 = .ok (.iinc 6 1, 3) := by decide +kernel
theorem dX9_copy_151 : decode cX9_copy 151 = .ok (.goto (-31), 3) := by decide +kernel
theorem dX9_copy_154 : decode cX9_copy 154 = .ok (.iconst 0, 1) := by decide +kernel
theorem dX9_copy_155 : decode cX9_copy 155 = .ok (.istore 6, 2) := by decide +kernel
theorem dX9_copy_157 : decode cX9_copy 157 = .ok (.iload 6, 2) := by decide +kernel
theorem dX9_copy_159 : decode cX9_copy 159 = .ok (.iload 5, 2) := by decide +kernel
theorem dX9_copy_161 : decode cX9_copy 161 = .ok (.if_icmp .ge 31, 3) := by decide +kernel
theorem dX9_copy_164 : decode cX9_copy 164 = .ok (.aload_n 0, 1) := by decide +kernel
theorem dX9_copy_165 : decode cX9_copy 165 = .ok (.getfield 106, 3) := by decide +kernel
theorem dX9_copy_168 : decode cX9_copy 168 = .ok (.bipush 40, 2) := by decide +kernel
theorem dX9_copy_170 : decode cX9_copy 170 = .ok (.iload_n 3, 1) := by decide +kernel
theorem dX9_copy_171 : decode cX9_copy 171 = .ok (.imul, 1) := by decide +kernel
theorem dX9_copy_172 : decode cX9_copy 172 = .ok (.iload 4, 2) := by decide +kernel
theorem dX9_copy_174 : decode cX9_copy 174 = .ok (.iadd, 1) := by decide +kernel
theorem dX9_copy_175 : decode cX9_copy 175 = .ok (.iload 6, 2) := by decide +kernel
theorem dX9_copy_177 : decode cX9_copy 177 = .ok (.iadd, 1) := by decide +kernel
theorem dX9_copy_178 : decode cX9_copy 178 = .ok (.aload_n 0, 1) := by decide +kernel
theorem dX9_copy_179 : decode cX9_copy 179 = .ok (.getfield 109, 3) := by decide +kernel
theorem dX9_copy_182 : decode cX9_copy 182 = .ok (.iload 6, 2) := by decide +kernel
theorem dX9_copy_184 : decode cX9_copy 184 = .ok (.iaload, 1) := by decide +kernel
theorem dX9_copy_185 : decode cX9_copy 185 = .ok (.iastore, 1) := by decide +kernel
theorem dX9_copy_186 : decode cX9_copy 186 = .ok (.iinc 6 1, 3) := by decide +kernel
theorem dX9_copy_189 : decode cX9_copy 189 = .ok (.goto (-32), 3) := by decide +kernel
theorem dX9_copy_192 : decode cX9_copy 192 = .ok (.iconst 1, 1) := by decide +kernel
theorem dX9_copy_193 : decode cX9_copy 193 = .ok (.ireturn, 1) := by decide +kernel
theorem dX9_countNow_0 : decode cX9_countNow 0 = .ok (.iconst 0, 1) := by decide +kernel
theorem dX9_countNow_1 : decode cX9_countNow 1 = .ok (.istore_n 2, 1) := by decide +kernel
theorem dX9_countNow_2 : decode cX9_countNow 2 = .ok (.iload_n 1, 1) := by decide +kernel
theorem dX9_countNow_3 : decode cX9_countNow 3 = .ok (.iconst 2, 1) := by decide +kernel
theorem dX9_countNow_4 : decode cX9_countNow 4 = .ok (.if_icmp .ne 48, 3) := by decide +kernel
theorem dX9_countNow_7 : decode cX9_countNow 7 = .ok (.iconst 0, 1) := by decide +kernel
theorem dX9_countNow_8 : decode cX9_countNow 8 = .ok (.istore_n 3, 1) := by decide +kernel
theorem dX9_countNow_9 : decode cX9_countNow 9 = .ok (.iload_n 3, 1) := by decide +kernel
theorem dX9_countNow_10 : decode cX9_countNow 10 = .ok (.bipush 64, 2) := by decide +kernel
theorem dX9_countNow_12 : decode cX9_countNow 12 = .ok (.if_icmp .ge 37, 3) := by decide +kernel
theorem dX9_countNow_15 : decode cX9_countNow 15 = .ok (.iload_n 2, 1) := by decide +kernel
theorem dX9_countNow_16 : decode cX9_countNow 16 = .ok (.iload_n 3, 1) := by decide +kernel
theorem dX9_countNow_17 : decode cX9_countNow 17 = .ok (.bipush 8, 2) := by decide +kernel
theorem dX9_countNow_19 : decode cX9_countNow 19 = .ok (.idiv, 1) := by decide +kernel
theorem dX9_countNow_20 : decode cX9_countNow 20 = .ok (.iload_n 3, 1) := by decide +kernel
theorem dX9_countNow_21 : decode cX9_countNow 21 = .ok (.bipush 8, 2) := by decide +kernel
theorem dX9_countNow_23 : decode cX9_countNow 23 = .ok (.irem, 1) := by decide +kernel
theorem dX9_countNow_24 : decode cX9_countNow 24 = .ok (.if_icmp .ge 16, 3) := by decide +kernel
theorem dX9_countNow_27 : decode cX9_countNow 27 = .ok (.aload_n 0, 1) := by decide +kernel
theorem dX9_countNow_28 : decode cX9_countNow 28 = .ok (.getfield 22, 3) := by decide +kernel
theorem dX9_countNow_31 : decode cX9_countNow 31 = .ok (.iload_n 3, 1) := by decide +kernel
theorem dX9_countNow_32 : decode cX9_countNow 32 = .ok (.iaload, 1) := by decide +kernel
theorem dX9_countNow_33 : decode cX9_countNow 33 = .ok (.ifCond .le 7, 3) := by decide +kernel
theorem dX9_countNow_36 : decode cX9_countNow 36 = .ok (.iconst 1, 1) := by decide +kernel
theorem dX9_countNow_37 : decode cX9_countNow 37 = .ok (.goto 4, 3) := by decide +kernel
theorem dX9_countNow_40 : decode cX9_countNow 40 = .ok (.iconst 0, 1) := by decide +kernel
theorem dX9_countNow_41 : decode cX9_countNow 41 = .ok (.iadd, 1) := by decide +kernel
theorem dX9_countNow_42 : decode cX9_countNow 42 = .ok (.istore_n 2, 1) := by decide +kernel
theorem dX9_countNow_43 : decode cX9_countNow 43 = .ok (.iinc 3 1, 3) := by decide +kernel
theorem dX9_countNow_46 : decode cX9_countNow 46 = .ok (.goto (-37), 3) := by decide +kernel
theorem dX9_countNow_49 : decode cX9_countNow 49 = .ok (.goto 57, 3) := by decide +kernel
theorem dX9_countNow_52 : decode cX9_countNow 52 = .ok (.iconst 1, 1) := by decide +kernel
theorem dX9_countNow_53 : decode cX9_countNow 53 = .ok (.istore_n 3, 1) := by decide +kernel
theorem dX9_countNow_54 : decode cX9_countNow 54 = .ok (.iload_n 3, 1) := by decide +kernel
theorem dX9_countNow_55 : decode cX9_countNow 55 = .ok (.bipush 7, 2) := by decide +kernel
theorem dX9_countNow_57 : decode cX9_countNow 57 = .ok (.if_icmp .gt 49, 3) := by decide +kernel
theorem dX9_countNow_60 : decode cX9_countNow 60 = .ok (.iconst 0, 1) := by decide +kernel
theorem dX9_countNow_61 : decode cX9_countNow 61 = .ok (.istore 4, 2) := by decide +kernel
theorem dX9_countNow_63 : decode cX9_countNow 63 = .ok (.iload 4, 2) := by decide +kernel
theorem dX9_countNow_65 : decode cX9_countNow 65 = .ok (.bipush 18, 2) := by decide +kernel
theorem dX9_countNow_67 : decode cX9_countNow 67 = .ok (.if_icmp .ge 33, 3) := by decide +kernel
theorem dX9_countNow_70 : decode cX9_countNow 70 = .ok (.iload_n 2, 1) := by decide +kernel
theorem dX9_countNow_71 : decode cX9_countNow 71 = .ok (.aload_n 0, 1) := by decide +kernel
theorem dX9_countNow_72 : decode cX9_countNow 72 = .ok (.iload_n 3, 1) := by decide +kernel
theorem dX9_countNow_73 : decode cX9_countNow 73 = .ok (.iload 4, 2) := by decide +kernel
theorem dX9_countNow_75 : decode cX9_countNow 75 = .ok (.iconst 3, 1) := by decide +kernel
theorem dX9_countNow_76 : decode cX9_countNow 76 = .ok (.idiv, 1) := by decide +kernel
theorem dX9_countNow_77 : decode cX9_countNow 77 = .ok (.iload 4, 2) := by decide +kernel
theorem dX9_countNow_79 : decode cX9_countNow 79 = .ok (.iconst 3, 1) := by decide +kernel
theorem dX9_countNow_80 : decode cX9_countNow 80 = .ok (.irem, 1) := by decide +kernel
theorem dX9_countNow_81 : decode cX9_countNow 81 = .ok (.invokevirtual 175, 3) := by decide +kernel
theorem dX9_countNow_84 : decode cX9_countNow 84 = .ok (.ifCond .le 7, 3) := by decide +kernel
theorem dX9_countNow_87 : decode cX9_countNow 87 = .ok (.iconst 1, 1) := by decide +kernel
theorem dX9_countNow_88 : decode cX9_countNow 88 = .ok (.goto 4, 3) := by decide +kernel
theorem dX9_countNow_91 : decode cX9_countNow 91 = .ok (.iconst 0, 1) := by decide +kernel
theorem dX9_countNow_92 : decode cX9_countNow 92 = .ok (.iadd, 1) := by decide +kernel
theorem dX9_countNow_93 : decode cX9_countNow 93 = .ok (.istore_n 2, 1) := by decide +kernel
theorem dX9_countNow_94 : decode cX9_countNow 94 = .ok (.iinc 4 1, 3) := by decide +kernel
theorem dX9_countNow_97 : decode cX9_countNow 97 = .ok (.goto (-34), 3) := by decide +kernel
theorem dX9_countNow_100 : decode cX9_countNow 100 = .ok (.iinc 3 1, 3) := by decide +kernel
theorem dX9_countNow_103 : decode cX9_countNow 103 = .ok (.goto (-49), 3) := by decide +kernel
theorem dX9_countNow_106 : decode cX9_countNow 106 = .ok (.iload_n 2, 1) := by decide +kernel
theorem dX9_countNow_107 : decode cX9_countNow 107 = .ok (.ireturn, 1) := by decide +kernel
theorem dX9_packWeight_0 : decode cX9_packWeight 0 = .ok (.iconst 0, 1) := by decide +kernel
theorem dX9_packWeight_1 : decode cX9_packWeight 1 = .ok (.istore_n 1, 1) := by decide +kernel
theorem dX9_packWeight_2 : decode cX9_packWeight 2 = .ok (.iconst 0, 1) := by decide +kernel
theorem dX9_packWeight_3 : decode cX9_packWeight 3 = .ok (.istore_n 2, 1) := by decide +kernel
theorem dX9_packWeight_4 : decode cX9_packWeight 4 = .ok (.iload_n 2, 1) := by decide +kernel
theorem dX9_packWeight_5 : decode cX9_packWeight 5 = .ok (.bipush 6, 2) := by decide +kernel
theorem dX9_packWeight_7 : decode cX9_packWeight 7 = .ok (.if_icmp .ge 25, 3) := by decide +kernel
theorem dX9_packWeight_10 : decode cX9_packWeight 10 = .ok (.iload_n 1, 1) := by decide +kernel
theorem dX9_packWeight_11 : decode cX9_packWeight 11 = .ok (.aload_n 0, 1) := by decide +kernel
theorem dX9_packWeight_12 : decode cX9_packWeight 12 = .ok (.getfield 59, 3) := by decide +kernel
theorem dX9_packWeight_15 : decode cX9_packWeight 15 = .ok (.iload_n 2, 1) := by decide +kernel
theorem dX9_packWeight_16 : decode cX9_packWeight 16 = .ok (.iaload, 1) := by decide +kernel
theorem dX9_packWeight_17 : decode cX9_packWeight 17 = .ok (.aload_n 0, 1) := by decide +kernel
theorem dX9_packWeight_18 : decode cX9_packWeight 18 = .ok (.getfield 13, 3) := by decide +kernel
theorem dX9_packWeight_21 : decode cX9_packWeight 21 = .ok (.iload_n 2, 1) := by decide +kernel
theorem dX9_packWeight_22 : decode cX9_packWeight 22 = .ok (.iaload, 1) := by decide +kernel
theorem dX9_packWeight_23 : decode cX9_packWeight 23 = .ok (.imul, 1) := by decide +kernel
theorem dX9_packWeight_24 : decode cX9_packWeight 24 = .ok (.iadd, 1) := by decide +kernel
theorem dX9_packWeight_25 : decode cX9_packWeight 25 = .ok (.istore_n 1, 1) := by decide +kernel
theorem dX9_packWeight_26 : decode cX9_packWeight 26 = .ok (.iinc 2 1, 3) := by decide +kernel
theorem dX9_packWeight_29 : decode cX9_packWeight 29 = .ok (.goto (-25), 3) := by decide +kernel
theorem dX9_packWeight_32 : decode cX9_packWeight 32 = .ok (.iload_n 1, 1) := by decide +kernel
theorem dX9_packWeight_33 : decode cX9_packWeight 33 = .ok (.ireturn, 1) := by decide +kernel
theorem dX9_count_0 : decode cX9_count 0 = .ok (.iload_n 1, 1) := by decide +kernel
theorem dX9_count_1 : decode cX9_count 1 = .ok (.tableswitch 92 0 8 #[51, 56, 61, 61, 67, 72, 77, 82, 87], 51) := by decide +kernel
theorem dX9_count_52 : decode cX9_count 52 = .ok (.aload_n 0, 1) := by decide +kernel
theorem dX9_count_53 : decode cX9_count 53 = .ok (.getfield 178, 3) := by decide +kernel
theorem dX9_count_56 : decode cX9_count 56 = .ok (.ireturn, 1) := by decide +kernel
theorem dX9_count_57 : decode cX9_count 57 = .ok (.aload_n 0, 1) := by decide +kernel
theorem dX9_count_58 : decode cX9_count 58 = .ok (.invokevirtual 181, 3) := by decide +kernel
theorem dX9_count_61 : decode cX9_count 61 = .ok (.ireturn, 1) := by decide +kernel
theorem dX9_count_62 : decode cX9_count 62 = .ok (.aload_n 0, 1) := by decide +kernel
theorem dX9_count_63 : decode cX9_count 63 = .ok (.iload_n 1, 1) := by decide +kernel
theorem dX9_count_64 : decode cX9_count 64 = .ok (.invokevirtual 310, 3) := by decide +kernel
theorem dX9_count_67 : decode cX9_count 67 = .ok (.ireturn, 1) := by decide +kernel
theorem dX9_count_68 : decode cX9_count 68 = .ok (.aload_n 0, 1) := by decide +kernel
theorem dX9_count_69 : decode cX9_count 69 = .ok (.getfield 132, 3) := by decide +kernel
theorem dX9_count_72 : decode cX9_count 72 = .ok (.ireturn, 1) := by decide +kernel
theorem dX9_count_73 : decode cX9_count 73 = .ok (.aload_n 0, 1) := by decide +kernel
theorem dX9_count_74 : decode cX9_count 74 = .ok (.getfield 28, 3) := by decide +kernel
theorem dX9_count_77 : decode cX9_count 77 = .ok (.ireturn, 1) := by decide +kernel
theorem dX9_count_78 : decode cX9_count 78 = .ok (.aload_n 0, 1) := by decide +kernel
theorem dX9_count_79 : decode cX9_count 79 = .ok (.getfield 32, 3) := by decide +kernel
theorem dX9_count_82 : decode cX9_count 82 = .ok (.ireturn, 1) := by decide +kernel
theorem dX9_count_83 : decode cX9_count 83 = .ok (.aload_n 0, 1) := by decide +kernel
theorem dX9_count_84 : decode cX9_count 84 = .ok (.getfield 35, 3) := by decide +kernel
theorem dX9_count_87 : decode cX9_count 87 = .ok (.ireturn, 1) := by decide +kernel
theorem dX9_count_88 : decode cX9_count 88 = .ok (.aload_n 0, 1) := by decide +kernel
theorem dX9_count_89 : decode cX9_count 89 = .ok (.getfield 299, 3) := by decide +kernel
theorem dX9_count_92 : decode cX9_count 92 = .ok (.ireturn, 1) := by decide +kernel
theorem dX9_count_93 : decode cX9_count 93 = .ok (.bipush (-2), 2) := by decide +kernel
theorem dX9_count_95 : decode cX9_count 95 = .ok (.ireturn, 1) := by decide +kernel
theorem dX9_expects_0 : decode cX9_expects 0 = .ok (.aload_n 0, 1) := by decide +kernel
theorem dX9_expects_1 : decode cX9_expects 1 = .ok (.getfield 138, 3) := by decide +kernel
theorem dX9_expects_4 : decode cX9_expects 4 = .ok (.iconst (-1), 1) := by decide +kernel
theorem dX9_expects_5 : decode cX9_expects 5 = .ok (.if_icmp .ne 19, 3) := by decide +kernel
theorem dX9_expects_8 : decode cX9_expects 8 = .ok (.aload_n 0, 1) := by decide +kernel
theorem dX9_expects_9 : decode cX9_expects 9 = .ok (.invokevirtual 141, 3) := by decide +kernel
theorem dX9_expects_12 : decode cX9_expects 12 = .ok (.iload_n 1, 1) := by decide +kernel
theorem dX9_expects_13 : decode cX9_expects 13 = .ok (.if_icmp .eq 11, 3) := by decide +kernel
theorem dX9_expects_16 : decode cX9_expects 16 = .ok (.aload_n 0, 1) := by decide +kernel
theorem dX9_expects_17 : decode cX9_expects 17 = .ok (.aload_n 0, 1) := by decide +kernel
theorem dX9_expects_18 : decode cX9_expects 18 = .ok (.getfield 135, 3) := by decide +kernel
theorem dX9_expects_21 : decode cX9_expects 21 = .ok (.putfield 138, 3) := by decide +kernel
theorem dX9_expects_24 : decode cX9_expects 24 = .ok (.aload_n 0, 1) := by decide +kernel
theorem dX9_expects_25 : decode cX9_expects 25 = .ok (.dup, 1) := by decide +kernel
theorem dX9_expects_26 : decode cX9_expects 26 = .ok (.getfield 135, 3) := by decide +kernel
theorem dX9_expects_29 : decode cX9_expects 29 = .ok (.iconst 1, 1) := by decide +kernel
theorem dX9_expects_30 : decode cX9_expects 30 = .ok (.iadd, 1) := by decide +kernel
theorem dX9_expects_31 : decode cX9_expects 31 = .ok (.putfield 135, 3) := by decide +kernel
theorem dX9_expects_34 : decode cX9_expects 34 = .ok (.return_, 1) := by decide +kernel
theorem dX9_number_0 : decode cX9_number 0 = .ok (.aload_n 0, 1) := by decide +kernel
theorem dX9_number_1 : decode cX9_number 1 = .ok (.getfield 135, 3) := by decide +kernel
theorem dX9_number_4 : decode cX9_number 4 = .ok (.istore 4, 2) := by decide +kernel
theorem dX9_number_6 : decode cX9_number 6 = .ok (.iconst 0, 1) := by decide +kernel
theorem dX9_number_7 : decode cX9_number 7 = .ok (.istore 5, 2) := by decide +kernel
theorem dX9_number_9 : decode cX9_number 9 = .ok (.aload_n 0, 1) := by decide +kernel
theorem dX9_number_10 : decode cX9_number 10 = .ok (.getfield 138, 3) := by decide +kernel
theorem dX9_number_13 : decode cX9_number 13 = .ok (.iconst (-1), 1) := by decide +kernel
theorem dX9_number_14 : decode cX9_number 14 = .ok (.if_icmp .ne 60, 3) := by decide +kernel
theorem dX9_number_17 : decode cX9_number 17 = .ok (.aload_n 0, 1) := by decide +kernel
theorem dX9_number_18 : decode cX9_number 18 = .ok (.getfield 135, 3) := by decide +kernel
theorem dX9_number_21 : decode cX9_number 21 = .ok (.iload 4, 2) := by decide +kernel
theorem dX9_number_23 : decode cX9_number 23 = .ok (.iload_n 1, 1) := by decide +kernel
theorem dX9_number_24 : decode cX9_number 24 = .ok (.iadd, 1) := by decide +kernel
theorem dX9_number_25 : decode cX9_number 25 = .ok (.if_icmp .ge 49, 3) := by decide +kernel
theorem dX9_number_28 : decode cX9_number 28 = .ok (.aload_n 0, 1) := by decide +kernel
theorem dX9_number_29 : decode cX9_number 29 = .ok (.invokevirtual 141, 3) := by decide +kernel
theorem dX9_number_32 : decode cX9_number 32 = .ok (.bipush 48, 2) := by decide +kernel
theorem dX9_number_34 : decode cX9_number 34 = .ok (.if_icmp .lt 40, 3) := by decide +kernel
theorem dX9_number_37 : decode cX9_number 37 = .ok (.aload_n 0, 1) := by decide +kernel
theorem dX9_number_38 : decode cX9_number 38 = .ok (.invokevirtual 141, 3) := by decide +kernel
theorem dX9_number_41 : decode cX9_number 41 = .ok (.bipush 57, 2) := by decide +kernel
theorem dX9_number_43 : decode cX9_number 43 = .ok (.if_icmp .gt 31, 3) := by decide +kernel
theorem dX9_number_46 : decode cX9_number 46 = .ok (.bipush 10, 2) := by decide +kernel
theorem dX9_number_48 : decode cX9_number 48 = .ok (.iload 5, 2) := by decide +kernel
theorem dX9_number_50 : decode cX9_number 50 = .ok (.imul, 1) := by decide +kernel
theorem dX9_number_51 : decode cX9_number 51 = .ok (.aload_n 0, 1) := by decide +kernel
theorem dX9_number_52 : decode cX9_number 52 = .ok (.invokevirtual 141, 3) := by decide +kernel
theorem dX9_number_55 : decode cX9_number 55 = .ok (.iadd, 1) := by decide +kernel
theorem dX9_number_56 : decode cX9_number 56 = .ok (.bipush 48, 2) := by decide +kernel
theorem dX9_number_58 : decode cX9_number 58 = .ok (.isub, 1) := by decide +kernel
theorem dX9_number_59 : decode cX9_number 59 = .ok (.istore 5, 2) := by decide +kernel
theorem dX9_number_61 : decode cX9_number 61 = .ok (.aload_n 0, 1) := by decide +kernel
theorem dX9_number_62 : decode cX9_number 62 = .ok (.dup, 1) := by decide +kernel
theorem dX9_number_63 : decode cX9_number 63 = .ok (.getfield 135, 3) := by decide +kernel
theorem dX9_number_66 : decode cX9_number 66 = .ok (.iconst 1, 1) := by decide +kernel
theorem dX9_number_67 : decode cX9_number 67 = .ok (.iadd, 1) := by decide +kernel
theorem dX9_number_68 : decode cX9_number 68 = .ok (.putfield 135, 3) := by decide +kernel
theorem dX9_number_71 : decode cX9_number 71 = .ok (.goto (-62), 3) := by decide +kernel
theorem dX9_number_74 : decode cX9_number 74 = .ok (.aload_n 0, 1) := by decide +kernel
theorem dX9_number_75 : decode cX9_number 75 = .ok (.getfield 138, 3) := by decide +kernel
theorem dX9_number_78 : decode cX9_number 78 = .ok (.iconst (-1), 1) := by decide +kernel
theorem dX9_number_79 : decode cX9_number 79 = .ok (.if_icmp .ne 28, 3) := by decide +kernel
theorem dX9_number_82 : decode cX9_number 82 = .ok (.aload_n 0, 1) := by decide +kernel
theorem dX9_number_83 : decode cX9_number 83 = .ok (.getfield 135, 3) := by decide +kernel
theorem dX9_number_86 : decode cX9_number 86 = .ok (.iload 4, 2) := by decide +kernel
theorem dX9_number_88 : decode cX9_number 88 = .ok (.if_icmp .eq 13, 3) := by decide +kernel
theorem dX9_number_91 : decode cX9_number 91 = .ok (.iload 5, 2) := by decide +kernel
theorem dX9_number_93 : decode cX9_number 93 = .ok (.iload_n 2, 1) := by decide +kernel
theorem dX9_number_94 : decode cX9_number 94 = .ok (.iload_n 3, 1) := by decide +kernel
theorem dX9_number_95 : decode cX9_number 95 = .ok (.invokestatic 114, 3) := by decide +kernel
theorem dX9_number_98 : decode cX9_number 98 = .ok (.ifCond .ne 9, 3) := by decide +kernel
theorem dX9_number_101 : decode cX9_number 101 = .ok (.aload_n 0, 1) := by decide +kernel
theorem dX9_number_102 : decode cX9_number 102 = .ok (.iload 4, 2) := by decide +kernel
theorem dX9_number_104 : decode cX9_number 104 = .ok (.putfield 138, 3) := by decide +kernel
theorem dX9_number_107 : decode cX9_number 107 = .ok (.iload 5, 2) := by decide +kernel
theorem dX9_number_109 : decode cX9_number 109 = .ok (.ireturn, 1) := by decide +kernel
theorem dX9_part_0 : decode cX9_part 0 = .ok (.aload_n 0, 1) := by decide +kernel
theorem dX9_part_1 : decode cX9_part 1 = .ok (.iconst 1, 1) := by decide +kernel
theorem dX9_part_2 : decode cX9_part 2 = .ok (.iconst 1, 1) := by decide +kernel
theorem dX9_part_3 : decode cX9_part 3 = .ok (.bipush 7, 2) := by decide +kernel
theorem dX9_part_5 : decode cX9_part 5 = .ok (.invokevirtual 145, 3) := by decide +kernel
theorem dX9_part_8 : decode cX9_part 8 = .ok (.istore_n 1, 1) := by decide +kernel
theorem dX9_part_9 : decode cX9_part 9 = .ok (.aload_n 0, 1) := by decide +kernel
theorem dX9_part_10 : decode cX9_part 10 = .ok (.bipush 58, 2) := by decide +kernel
theorem dX9_part_12 : decode cX9_part 12 = .ok (.invokevirtual 149, 3) := by decide +kernel
theorem dX9_part_15 : decode cX9_part 15 = .ok (.aload_n 0, 1) := by decide +kernel
theorem dX9_part_16 : decode cX9_part 16 = .ok (.iconst 1, 1) := by decide +kernel
theorem dX9_part_17 : decode cX9_part 17 = .ok (.iconst 0, 1) := by decide +kernel
theorem dX9_part_18 : decode cX9_part 18 = .ok (.iconst 5, 1) := by decide +kernel
theorem dX9_part_19 : decode cX9_part 19 = .ok (.invokevirtual 145, 3) := by decide +kernel
theorem dX9_part_22 : decode cX9_part 22 = .ok (.istore_n 2, 1) := by decide +kernel
theorem dX9_part_23 : decode cX9_part 23 = .ok (.aload_n 0, 1) := by decide +kernel
theorem dX9_part_24 : decode cX9_part 24 = .ok (.bipush 61, 2) := by decide +kernel
theorem dX9_part_26 : decode cX9_part 26 = .ok (.invokevirtual 149, 3) := by decide +kernel
theorem dX9_part_29 : decode cX9_part 29 = .ok (.aload_n 0, 1) := by decide +kernel
theorem dX9_part_30 : decode cX9_part 30 = .ok (.iconst 2, 1) := by decide +kernel
theorem dX9_part_31 : decode cX9_part 31 = .ok (.iconst 0, 1) := by decide +kernel
theorem dX9_part_32 : decode cX9_part 32 = .ok (.bipush 16, 2) := by decide +kernel
theorem dX9_part_34 : decode cX9_part 34 = .ok (.invokevirtual 145, 3) := by decide +kernel
theorem dX9_part_37 : decode cX9_part 37 = .ok (.istore_n 3, 1) := by decide +kernel
theorem dX9_part_38 : decode cX9_part 38 = .ok (.aload_n 0, 1) := by decide +kernel
theorem dX9_part_39 : decode cX9_part 39 = .ok (.bipush 44, 2) := by decide +kernel
theorem dX9_part_41 : decode cX9_part 41 = .ok (.invokevirtual 149, 3) := by decide +kernel
theorem dX9_part_44 : decode cX9_part 44 = .ok (.aload_n 0, 1) := by decide +kernel
theorem dX9_part_45 : decode cX9_part 45 = .ok (.iconst 2, 1) := by decide +kernel
theorem dX9_part_46 : decode cX9_part 46 = .ok (.iconst 0, 1) := by decide +kernel
theorem dX9_part_47 : decode cX9_part 47 = .ok (.iload_n 3, 1) := by decide +kernel
theorem dX9_part_48 : decode cX9_part 48 = .ok (.invokevirtual 145, 3) := by decide +kernel
theorem dX9_part_51 : decode cX9_part 51 = .ok (.istore 4, 2) := by decide +kernel
theorem dX9_part_53 : decode cX9_part 53 = .ok (.aload_n 0, 1) := by decide +kernel
theorem dX9_part_54 : decode cX9_part 54 = .ok (.bipush 44, 2) := by decide +kernel
theorem dX9_part_56 : decode cX9_part 56 = .ok (.invokevirtual 149, 3) := by decide +kernel
theorem dX9_part_59 : decode cX9_part 59 = .ok (.aload_n 0, 1) := by decide +kernel
theorem dX9_part_60 : decode cX9_part 60 = .ok (.iconst 2, 1) := by decide +kernel
theorem dX9_part_61 : decode cX9_part 61 = .ok (.iconst 0, 1) := by decide +kernel
theorem dX9_part_62 : decode cX9_part 62 = .ok (.iload 4, 2) := by decide +kernel
theorem dX9_part_64 : decode cX9_part 64 = .ok (.invokevirtual 145, 3) := by decide +kernel
theorem dX9_part_67 : decode cX9_part 67 = .ok (.istore 5, 2) := by decide +kernel
theorem dX9_part_69 : decode cX9_part 69 = .ok (.aload_n 0, 1) := by decide +kernel
theorem dX9_part_70 : decode cX9_part 70 = .ok (.getfield 138, 3) := by decide +kernel
theorem dX9_part_73 : decode cX9_part 73 = .ok (.iconst (-1), 1) := by decide +kernel
theorem dX9_part_74 : decode cX9_part 74 = .ok (.if_icmp .ne 75, 3) := by decide +kernel
theorem dX9_part_77 : decode cX9_part 77 = .ok (.aload_n 0, 1) := by decide +kernel
theorem dX9_part_78 : decode cX9_part 78 = .ok (.getfield 47, 3) := by decide +kernel
theorem dX9_part_81 : decode cX9_part 81 = .ok (.aload_n 0, 1) := by decide +kernel
theorem dX9_part_82 : decode cX9_part 82 = .ok (.getfield 153, 3) := by decide +kernel
theorem dX9_part_85 : decode cX9_part 85 = .ok (.iload_n 1, 1) := by decide +kernel
theorem dX9_part_86 : decode cX9_part 86 = .ok (.iastore, 1) := by decide +kernel
theorem dX9_part_87 : decode cX9_part 87 = .ok (.aload_n 0, 1) := by decide +kernel
theorem dX9_part_88 : decode cX9_part 88 = .ok (.getfield 50, 3) := by decide +kernel
theorem dX9_part_91 : decode cX9_part 91 = .ok (.aload_n 0, 1) := by decide +kernel
theorem dX9_part_92 : decode cX9_part 92 = .ok (.getfield 153, 3) := by decide +kernel
theorem dX9_part_95 : decode cX9_part 95 = .ok (.iload_n 2, 1) := by decide +kernel
theorem dX9_part_96 : decode cX9_part 96 = .ok (.iastore, 1) := by decide +kernel
theorem dX9_part_97 : decode cX9_part 97 = .ok (.aload_n 0, 1) := by decide +kernel
theorem dX9_part_98 : decode cX9_part 98 = .ok (.getfield 53, 3) := by decide +kernel
theorem dX9_part_101 : decode cX9_part 101 = .ok (.iconst 3, 1) := by decide +kernel
theorem dX9_part_102 : decode cX9_part 102 = .ok (.aload_n 0, 1) := by decide +kernel
theorem dX9_part_103 : decode cX9_part 103 = .ok (.getfield 153, 3) := by decide +kernel
theorem dX9_part_106 : decode cX9_part 106 = .ok (.imul, 1) := by decide +kernel
theorem dX9_part_107 : decode cX9_part 107 = .ok (.iload_n 3, 1) := by decide +kernel
theorem dX9_part_108 : decode cX9_part 108 = .ok (.iastore, 1) := by decide +kernel
theorem dX9_part_109 : decode cX9_part 109 = .ok (.aload_n 0, 1) := by decide +kernel
theorem dX9_part_110 : decode cX9_part 110 = .ok (.getfield 53, 3) := by decide +kernel
theorem dX9_part_113 : decode cX9_part 113 = .ok (.iconst 3, 1) := by decide +kernel
theorem dX9_part_114 : decode cX9_part 114 = .ok (.aload_n 0, 1) := by decide +kernel
theorem dX9_part_115 : decode cX9_part 115 = .ok (.getfield 153, 3) := by decide +kernel
theorem dX9_part_118 : decode cX9_part 118 = .ok (.imul, 1) := by decide +kernel
theorem dX9_part_119 : decode cX9_part 119 = .ok (.iconst 1, 1) := by decide +kernel
theorem dX9_part_120 : decode cX9_part 120 = .ok (.iadd, 1) := by decide +kernel
theorem dX9_part_121 : decode cX9_part 121 = .ok (.iload 4, 2) := by decide +kernel
theorem dX9_part_123 : decode cX9_part 123 = .ok (.iastore, 1) := by decide +kernel
theorem dX9_part_124 : decode cX9_part 124 = .ok (.aload_n 0, 1) := by decide +kernel
theorem dX9_part_125 : decode cX9_part 125 = .ok (.getfield 53, 3) := by decide +kernel
theorem dX9_part_128 : decode cX9_part 128 = .ok (.iconst 3, 1) := by decide +kernel
theorem dX9_part_129 : decode cX9_part 129 = .ok (.aload_n 0, 1) := by decide +kernel
theorem dX9_part_130 : decode cX9_part 130 = .ok (.getfield 153, 3) := by decide +kernel
theorem dX9_part_133 : decode cX9_part 133 = .ok (.imul, 1) := by decide +kernel
theorem dX9_part_134 : decode cX9_part 134 = .ok (.iconst 2, 1) := by decide +kernel
theorem dX9_part_135 : decode cX9_part 135 = .ok (.iadd, 1) := by decide +kernel
theorem dX9_part_136 : decode cX9_part 136 = .ok (.iload 5, 2) := by decide +kernel
theorem dX9_part_138 : decode cX9_part 138 = .ok (.iastore, 1) := by decide +kernel
theorem dX9_part_139 : decode cX9_part 139 = .ok (.aload_n 0, 1) := by decide +kernel
theorem dX9_part_140 : decode cX9_part 140 = .ok (.dup, 1) := by decide +kernel
theorem dX9_part_141 : decode cX9_part 141 = .ok (.getfield 153, 3) := by decide +kernel
theorem dX9_part_144 : decode cX9_part 144 = .ok (.iconst 1, 1) := by decide +kernel
theorem dX9_part_145 : decode cX9_part 145 = .ok (.iadd, 1) := by decide +kernel
theorem dX9_part_146 : decode cX9_part 146 = .ok (.putfield 153, 3) := by decide +kernel
theorem dX9_part_149 : decode cX9_part 149 = .ok (.return_, 1) := by decide +kernel
theorem dX9_faultNow_0 : decode cX9_faultNow 0 = .ok (.aload_n 0, 1) := by decide +kernel
theorem dX9_faultNow_1 : decode cX9_faultNow 1 = .ok (.iconst 0, 1) := by decide +kernel
theorem dX9_faultNow_2 : decode cX9_faultNow 2 = .ok (.putfield 135, 3) := by decide +kernel
theorem dX9_faultNow_5 : decode cX9_faultNow 5 = .ok (.aload_n 0, 1) := by decide +kernel
theorem dX9_faultNow_6 : decode cX9_faultNow 6 = .ok (.iconst (-1), 1) := by decide +kernel
theorem dX9_faultNow_7 : decode cX9_faultNow 7 = .ok (.putfield 138, 3) := by decide +kernel
theorem dX9_faultNow_10 : decode cX9_faultNow 10 = .ok (.aload_n 0, 1) := by decide +kernel
theorem dX9_faultNow_11 : decode cX9_faultNow 11 = .ok (.iconst 0, 1) := by decide +kernel
theorem dX9_faultNow_12 : decode cX9_faultNow 12 = .ok (.putfield 153, 3) := by decide +kernel
theorem dX9_faultNow_15 : decode cX9_faultNow 15 = .ok (.aload_n 0, 1) := by decide +kernel
theorem dX9_faultNow_16 : decode cX9_faultNow 16 = .ok (.invokevirtual 156, 3) := by decide +kernel
theorem dX9_faultNow_19 : decode cX9_faultNow 19 = .ok (.aload_n 0, 1) := by decide +kernel
theorem dX9_faultNow_20 : decode cX9_faultNow 20 = .ok (.getfield 138, 3) := by decide +kernel
theorem dX9_faultNow_23 : decode cX9_faultNow 23 = .ok (.iconst (-1), 1) := by decide +kernel
theorem dX9_faultNow_24 : decode cX9_faultNow 24 = .ok (.if_icmp .ne 35, 3) := by decide +kernel
theorem dX9_faultNow_27 : decode cX9_faultNow 27 = .ok (.aload_n 0, 1) := by decide +kernel
theorem dX9_faultNow_28 : decode cX9_faultNow 28 = .ok (.getfield 135, 3) := by decide +kernel
theorem dX9_faultNow_31 : decode cX9_faultNow 31 = .ok (.aload_n 0, 1) := by decide +kernel
theorem dX9_faultNow_32 : decode cX9_faultNow 32 = .ok (.getfield 132, 3) := by decide +kernel
theorem dX9_faultNow_35 : decode cX9_faultNow 35 = .ok (.if_icmp .ge 24, 3) := by decide +kernel
theorem dX9_faultNow_38 : decode cX9_faultNow 38 = .ok (.aload_n 0, 1) := by decide +kernel
theorem dX9_faultNow_39 : decode cX9_faultNow 39 = .ok (.bipush 59, 2) := by decide +kernel
theorem dX9_faultNow_41 : decode cX9_faultNow 41 = .ok (.invokevirtual 149, 3) := by decide +kernel
theorem dX9_faultNow_44 : decode cX9_faultNow 44 = .ok (.aload_n 0, 1) := by decide +kernel
theorem dX9_faultNow_45 : decode cX9_faultNow 45 = .ok (.getfield 138, 3) := by decide +kernel
theorem dX9_faultNow_48 : decode cX9_faultNow 48 = .ok (.iconst (-1), 1) := by decide +kernel
theorem dX9_faultNow_49 : decode cX9_faultNow 49 = .ok (.if_icmp .ne (-30), 3) := by decide +kernel
theorem dX9_faultNow_52 : decode cX9_faultNow 52 = .ok (.aload_n 0, 1) := by decide +kernel
theorem dX9_faultNow_53 : decode cX9_faultNow 53 = .ok (.invokevirtual 156, 3) := by decide +kernel
theorem dX9_faultNow_56 : decode cX9_faultNow 56 = .ok (.goto (-37), 3) := by decide +kernel
theorem dX9_faultNow_59 : decode cX9_faultNow 59 = .ok (.aload_n 0, 1) := by decide +kernel
theorem dX9_faultNow_60 : decode cX9_faultNow 60 = .ok (.getfield 138, 3) := by decide +kernel
theorem dX9_faultNow_63 : decode cX9_faultNow 63 = .ok (.ireturn, 1) := by decide +kernel
theorem dX9_gainNow_0 : decode cX9_gainNow 0 = .ok (.aload_n 0, 1) := by decide +kernel
theorem dX9_gainNow_1 : decode cX9_gainNow 1 = .ok (.invokevirtual 199, 3) := by decide +kernel
theorem dX9_gainNow_4 : decode cX9_gainNow 4 = .ok (.lconst 0, 1) := by decide +kernel
theorem dX9_gainNow_5 : decode cX9_gainNow 5 = .ok (.lstore_n 1, 1) := by decide +kernel
theorem dX9_gainNow_6 : decode cX9_gainNow 6 = .ok (.iconst 0, 1) := by decide +kernel
theorem dX9_gainNow_7 : decode cX9_gainNow 7 = .ok (.istore_n 3, 1) := by decide +kernel
theorem dX9_gainNow_8 : decode cX9_gainNow 8 = .ok (.iload_n 3, 1) := by decide +kernel
theorem dX9_gainNow_9 : decode cX9_gainNow 9 = .ok (.bipush 6, 2) := by decide +kernel
theorem dX9_gainNow_11 : decode cX9_gainNow 11 = .ok (.if_icmp .ge 23, 3) := by decide +kernel
theorem dX9_gainNow_14 : decode cX9_gainNow 14 = .ok (.lload_n 1, 1) := by decide +kernel
theorem dX9_gainNow_15 : decode cX9_gainNow 15 = .ok (.aload_n 0, 1) := by decide +kernel
theorem dX9_gainNow_16 : decode cX9_gainNow 16 = .ok (.iload_n 3, 1) := by decide +kernel
theorem dX9_gainNow_17 : decode cX9_gainNow 17 = .ok (.aload_n 0, 1) := by decide +kernel
theorem dX9_gainNow_18 : decode cX9_gainNow 18 = .ok (.getfield 59, 3) := by decide +kernel
theorem dX9_gainNow_21 : decode cX9_gainNow 21 = .ok (.iload_n 3, 1) := by decide +kernel
theorem dX9_gainNow_22 : decode cX9_gainNow 22 = .ok (.iaload, 1) := by decide +kernel
theorem dX9_gainNow_23 : decode cX9_gainNow 23 = .ok (.invokevirtual 218, 3) := by decide +kernel
theorem dX9_gainNow_26 : decode cX9_gainNow 26 = .ok (.ladd, 1) := by decide +kernel
theorem dX9_gainNow_27 : decode cX9_gainNow 27 = .ok (.lstore_n 1, 1) := by decide +kernel
theorem dX9_gainNow_28 : decode cX9_gainNow 28 = .ok (.iinc 3 1, 3) := by decide +kernel
theorem dX9_gainNow_31 : decode cX9_gainNow 31 = .ok (.goto (-23), 3) := by decide +kernel
theorem dX9_gainNow_34 : decode cX9_gainNow 34 = .ok (.lload_n 1, 1) := by decide +kernel
theorem dX9_gainNow_35 : decode cX9_gainNow 35 = .ok (.lreturn, 1) := by decide +kernel
theorem dX9_hoursNow_0 : decode cX9_hoursNow 0 = .ok (.aload_n 0, 1) := by decide +kernel
theorem dX9_hoursNow_1 : decode cX9_hoursNow 1 = .ok (.invokevirtual 129, 3) := by decide +kernel
theorem dX9_hoursNow_4 : decode cX9_hoursNow 4 = .ok (.aload_n 0, 1) := by decide +kernel
theorem dX9_hoursNow_5 : decode cX9_hoursNow 5 = .ok (.invokevirtual 199, 3) := by decide +kernel
theorem dX9_hoursNow_8 : decode cX9_hoursNow 8 = .ok (.aload_n 0, 1) := by decide +kernel
theorem dX9_hoursNow_9 : decode cX9_hoursNow 9 = .ok (.iconst 0, 1) := by decide +kernel
theorem dX9_hoursNow_10 : decode cX9_hoursNow 10 = .ok (.invokevirtual 202, 3) := by decide +kernel
theorem dX9_hoursNow_13 : decode cX9_hoursNow 13 = .ok (.ireturn, 1) := by decide +kernel
theorem dX9_judgedNow_0 : decode cX9_judgedNow 0 = .ok (.aload_n 0, 1) := by decide +kernel
theorem dX9_judgedNow_1 : decode cX9_judgedNow 1 = .ok (.invokevirtual 181, 3) := by decide +kernel
theorem dX9_judgedNow_4 : decode cX9_judgedNow 4 = .ok (.aload_n 0, 1) := by decide +kernel
theorem dX9_judgedNow_5 : decode cX9_judgedNow 5 = .ok (.getfield 32, 3) := by decide +kernel
theorem dX9_judgedNow_8 : decode cX9_judgedNow 8 = .ok (.if_icmp .le 7, 3) := by decide +kernel
theorem dX9_judgedNow_11 : decode cX9_judgedNow 11 = .ok (.iconst 1, 1) := by decide +kernel
theorem dX9_judgedNow_12 : decode cX9_judgedNow 12 = .ok (.goto 19, 3) := by decide +kernel
theorem dX9_judgedNow_15 : decode cX9_judgedNow 15 = .ok (.aload_n 0, 1) := by decide +kernel
theorem dX9_judgedNow_16 : decode cX9_judgedNow 16 = .ok (.invokevirtual 205, 3) := by decide +kernel
theorem dX9_judgedNow_19 : decode cX9_judgedNow 19 = .ok (.aload_n 0, 1) := by decide +kernel
theorem dX9_judgedNow_20 : decode cX9_judgedNow 20 = .ok (.getfield 28, 3) := by decide +kernel
theorem dX9_judgedNow_23 : decode cX9_judgedNow 23 = .ok (.if_icmp .le 7, 3) := by decide +kernel
theorem dX9_judgedNow_26 : decode cX9_judgedNow 26 = .ok (.iconst 2, 1) := by decide +kernel
theorem dX9_judgedNow_27 : decode cX9_judgedNow 27 = .ok (.goto 4, 3) := by decide +kernel
theorem dX9_judgedNow_30 : decode cX9_judgedNow 30 = .ok (.iconst 0, 1) := by decide +kernel
theorem dX9_judgedNow_31 : decode cX9_judgedNow 31 = .ok (.ireturn, 1) := by decide +kernel
theorem dX9_loads_0 : decode cX9_loads 0 = .ok (.aload_n 0, 1) := by decide +kernel
theorem dX9_loads_1 : decode cX9_loads 1 = .ok (.invokevirtual 199, 3) := by decide +kernel
theorem dX9_loads_4 : decode cX9_loads 4 = .ok (.aload_n 0, 1) := by decide +kernel
theorem dX9_loads_5 : decode cX9_loads 5 = .ok (.iconst 0, 1) := by decide +kernel
theorem dX9_loads_6 : decode cX9_loads 6 = .ok (.putfield 241, 3) := by decide +kernel
theorem dX9_loads_9 : decode cX9_loads 9 = .ok (.iconst 0, 1) := by decide +kernel
theorem dX9_loads_10 : decode cX9_loads 10 = .ok (.istore_n 1, 1) := by decide +kernel
theorem dX9_loads_11 : decode cX9_loads 11 = .ok (.iload_n 1, 1) := by decide +kernel
theorem dX9_loads_12 : decode cX9_loads 12 = .ok (.bipush 6, 2) := by decide +kernel
theorem dX9_loads_14 : decode cX9_loads 14 = .ok (.if_icmp .ge 16, 3) := by decide +kernel
theorem dX9_loads_17 : decode cX9_loads 17 = .ok (.aload_n 0, 1) := by decide +kernel
theorem dX9_loads_18 : decode cX9_loads 18 = .ok (.getfield 78, 3) := by decide +kernel
theorem dX9_loads_21 : decode cX9_loads 21 = .ok (.iload_n 1, 1) := by decide +kernel
theorem dX9_loads_22 : decode cX9_loads 22 = .ok (.iconst 0, 1) := by decide +kernel
theorem dX9_loads_23 : decode cX9_loads 23 = .ok (.iastore, 1) := by decide +kernel
theorem dX9_loads_24 : decode cX9_loads 24 = .ok (.iinc 1 1, 3) := by decide +kernel
theorem dX9_loads_27 : decode cX9_loads 27 = .ok (.goto (-16), 3) := by decide +kernel
theorem dX9_loads_30 : decode cX9_loads 30 = .ok (.iconst 1, 1) := by decide +kernel
theorem dX9_loads_31 : decode cX9_loads 31 = .ok (.istore_n 1, 1) := by decide +kernel
theorem dX9_loads_32 : decode cX9_loads 32 = .ok (.iload_n 1, 1) := by decide +kernel
theorem dX9_loads_33 : decode cX9_loads 33 = .ok (.ifCond .eq 169, 3) := by decide +kernel
theorem dX9_loads_36 : decode cX9_loads 36 = .ok (.iconst (-1), 1) := by decide +kernel
theorem dX9_loads_37 : decode cX9_loads 37 = .ok (.istore_n 2, 1) := by decide +kernel
theorem dX9_loads_38 : decode cX9_loads 38 = .ok (.lconst 0, 1) := by decide +kernel
theorem dX9_loads_39 : decode cX9_loads 39 = .ok (.lstore_n 3, 1) := by decide +kernel
theorem dX9_loads_40 : decode cX9_loads 40 = .ok (.iconst 0, 1) := by decide +kernel
theorem dX9_loads_41 : decode cX9_loads 41 = .ok (.istore 5, 2) := by decide +kernel
theorem dX9_loads_43 : decode cX9_loads 43 = .ok (.iload 5, 2) := by decide +kernel
theorem dX9_loads_45 : decode cX9_loads 45 = .ok (.bipush 6, 2) := by decide +kernel
theorem dX9_loads_47 : decode cX9_loads 47 = .ok (.if_icmp .ge 112, 3) := by decide +kernel
theorem dX9_loads_50 : decode cX9_loads 50 = .ok (.aload_n 0, 1) := by decide +kernel
theorem dX9_loads_51 : decode cX9_loads 51 = .ok (.getfield 78, 3) := by decide +kernel
theorem dX9_loads_54 : decode cX9_loads 54 = .ok (.iload 5, 2) := by decide +kernel
theorem dX9_loads_56 : decode cX9_loads 56 = .ok (.iaload, 1) := by decide +kernel
theorem dX9_loads_57 : decode cX9_loads 57 = .ok (.iconst 4, 1) := by decide +kernel
theorem dX9_loads_58 : decode cX9_loads 58 = .ok (.if_icmp .ge 95, 3) := by decide +kernel
theorem dX9_loads_61 : decode cX9_loads 61 = .ok (.aload_n 0, 1) := by decide +kernel
theorem dX9_loads_62 : decode cX9_loads 62 = .ok (.getfield 241, 3) := by decide +kernel
theorem dX9_loads_65 : decode cX9_loads 65 = .ok (.aload_n 0, 1) := by decide +kernel
theorem dX9_loads_66 : decode cX9_loads 66 = .ok (.getfield 13, 3) := by decide +kernel
theorem dX9_loads_69 : decode cX9_loads 69 = .ok (.iload 5, 2) := by decide +kernel
theorem dX9_loads_71 : decode cX9_loads 71 = .ok (.iaload, 1) := by decide +kernel
theorem dX9_loads_72 : decode cX9_loads 72 = .ok (.iadd, 1) := by decide +kernel
theorem dX9_loads_73 : decode cX9_loads 73 = .ok (.aload_n 0, 1) := by decide +kernel
theorem dX9_loads_74 : decode cX9_loads 74 = .ok (.getfield 32, 3) := by decide +kernel
theorem dX9_loads_77 : decode cX9_loads 77 = .ok (.if_icmp .gt 76, 3) := by decide +kernel
theorem dX9_loads_80 : decode cX9_loads 80 = .ok (.aload_n 0, 1) := by decide +kernel
theorem dX9_loads_81 : decode cX9_loads 81 = .ok (.iload 5, 2) := by decide +kernel
theorem dX9_loads_83 : decode cX9_loads 83 = .ok (.aload_n 0, 1) := by decide +kernel
theorem dX9_loads_84 : decode cX9_loads 84 = .ok (.getfield 78, 3) := by decide +kernel
theorem dX9_loads_87 : decode cX9_loads 87 = .ok (.iload 5, 2) := by decide +kernel
theorem dX9_loads_89 : decode cX9_loads 89 = .ok (.iaload, 1) := by decide +kernel
theorem dX9_loads_90 : decode cX9_loads 90 = .ok (.iconst 1, 1) := by decide +kernel
theorem dX9_loads_91 : decode cX9_loads 91 = .ok (.iadd, 1) := by decide +kernel
theorem dX9_loads_92 : decode cX9_loads 92 = .ok (.invokevirtual 218, 3) := by decide +kernel
theorem dX9_loads_95 : decode cX9_loads 95 = .ok (.aload_n 0, 1) := by decide +kernel
theorem dX9_loads_96 : decode cX9_loads 96 = .ok (.iload 5, 2) := by decide +kernel
theorem dX9_loads_98 : decode cX9_loads 98 = .ok (.aload_n 0, 1) := by decide +kernel
theorem dX9_loads_99 : decode cX9_loads 99 = .ok (.getfield 78, 3) := by decide +kernel
theorem dX9_loads_102 : decode cX9_loads 102 = .ok (.iload 5, 2) := by decide +kernel
theorem dX9_loads_104 : decode cX9_loads 104 = .ok (.iaload, 1) := by decide +kernel
theorem dX9_loads_105 : decode cX9_loads 105 = .ok (.invokevirtual 218, 3) := by decide +kernel
theorem dX9_loads_108 : decode cX9_loads 108 = .ok (.lsub, 1) := by decide +kernel
theorem dX9_loads_109 : decode cX9_loads 109 = .ok (.lstore 6, 2) := by decide +kernel
theorem dX9_loads_111 : decode cX9_loads 111 = .ok (.lload 6, 2) := by decide +kernel
theorem dX9_loads_113 : decode cX9_loads 113 = .ok (.lconst 0, 1) := by decide +kernel
theorem dX9_loads_114 : decode cX9_loads 114 = .ok (.lcmp, 1) := by decide +kernel
theorem dX9_loads_115 : decode cX9_loads 115 = .ok (.ifCond .le 38, 3) := by decide +kernel
theorem dX9_loads_118 : decode cX9_loads 118 = .ok (.iload_n 2, 1) := by decide +kernel
theorem dX9_loads_119 : decode cX9_loads 119 = .ok (.iconst (-1), 1) := by decide +kernel
theorem dX9_loads_120 : decode cX9_loads 120 = .ok (.if_icmp .eq 27, 3) := by decide +kernel
theorem dX9_loads_123 : decode cX9_loads 123 = .ok (.lload 6, 2) := by decide +kernel
theorem dX9_loads_125 : decode cX9_loads 125 = .ok (.aload_n 0, 1) := by decide +kernel
theorem dX9_loads_126 : decode cX9_loads 126 = .ok (.getfield 13, 3) := by decide +kernel
theorem dX9_loads_129 : decode cX9_loads 129 = .ok (.iload_n 2, 1) := by decide +kernel
theorem dX9_loads_130 : decode cX9_loads 130 = .ok (.iaload, 1) := by decide +kernel
theorem dX9_loads_131 : decode cX9_loads 131 = .ok (.i2l, 1) := by decide +kernel
theorem dX9_loads_132 : decode cX9_loads 132 = .ok (.lmul, 1) := by decide +kernel
theorem dX9_loads_133 : decode cX9_loads 133 = .ok (.lload_n 3, 1) := by decide +kernel
theorem dX9_loads_134 : decode cX9_loads 134 = .ok (.aload_n 0, 1) := by decide +kernel
theorem dX9_loads_135 : decode cX9_loads 135 = .ok (.getfield 13, 3) := by decide +kernel
theorem dX9_loads_138 : decode cX9_loads 138 = .ok (.iload 5, 2) := by decide +kernel
theorem dX9_loads_140 : decode cX9_loads 140 = .ok (.iaload, 1) := by decide +kernel
theorem dX9_loads_141 : decode cX9_loads 141 = .ok (.i2l, 1) := by decide +kernel
theorem dX9_loads_142 : decode cX9_loads 142 = .ok (.lmul, 1) := by decide +kernel
theorem dX9_loads_143 : decode cX9_loads 143 = .ok (.lcmp, 1) := by decide +kernel
theorem dX9_loads_144 : decode cX9_loads 144 = .ok (.ifCond .le 9, 3) := by decide +kernel
theorem dX9_loads_147 : decode cX9_loads 147 = .ok (.iload 5, 2) := by decide +kernel
theorem dX9_loads_149 : decode cX9_loads 149 = .ok (.istore_n 2, 1) := by decide +kernel
theorem dX9_loads_150 : decode cX9_loads 150 = .ok (.lload 6, 2) := by decide +kernel
theorem dX9_loads_152 : decode cX9_loads 152 = .ok (.lstore_n 3, 1) := by decide +kernel
theorem dX9_loads_153 : decode cX9_loads 153 = .ok (.iinc 5 1, 3) := by decide +kernel
theorem dX9_loads_156 : decode cX9_loads 156 = .ok (.goto (-113), 3) := by decide +kernel
theorem dX9_loads_159 : decode cX9_loads 159 = .ok (.iload_n 2, 1) := by decide +kernel
theorem dX9_loads_160 : decode cX9_loads 160 = .ok (.iconst (-1), 1) := by decide +kernel
theorem dX9_loads_161 : decode cX9_loads 161 = .ok (.if_icmp .eq 7, 3) := by decide +kernel
theorem dX9_loads_164 : decode cX9_loads 164 = .ok (.iconst 1, 1) := by decide +kernel
theorem dX9_loads_165 : decode cX9_loads 165 = .ok (.goto 4, 3) := by decide +kernel
theorem dX9_loads_168 : decode cX9_loads 168 = .ok (.iconst 0, 1) := by decide +kernel
theorem dX9_loads_169 : decode cX9_loads 169 = .ok (.istore_n 1, 1) := by decide +kernel
theorem dX9_loads_170 : decode cX9_loads 170 = .ok (.iload_n 1, 1) := by decide +kernel
theorem dX9_loads_171 : decode cX9_loads 171 = .ok (.ifCond .eq 28, 3) := by decide +kernel
theorem dX9_loads_174 : decode cX9_loads 174 = .ok (.aload_n 0, 1) := by decide +kernel
theorem dX9_loads_175 : decode cX9_loads 175 = .ok (.getfield 78, 3) := by decide +kernel
theorem dX9_loads_178 : decode cX9_loads 178 = .ok (.iload_n 2, 1) := by decide +kernel
theorem dX9_loads_179 : decode cX9_loads 179 = .ok (.dup2, 1) := by decide +kernel
theorem dX9_loads_180 : decode cX9_loads 180 = .ok (.iaload, 1) := by decide +kernel
theorem dX9_loads_181 : decode cX9_loads 181 = .ok (.iconst 1, 1) := by decide +kernel
theorem dX9_loads_182 : decode cX9_loads 182 = .ok (.iadd, 1) := by decide +kernel
theorem dX9_loads_183 : decode cX9_loads 183 = .ok (.iastore, 1) := by decide +kernel
theorem dX9_loads_184 : decode cX9_loads 184 = .ok (.aload_n 0, 1) := by decide +kernel
theorem dX9_loads_185 : decode cX9_loads 185 = .ok (.dup, 1) := by decide +kernel
theorem dX9_loads_186 : decode cX9_loads 186 = .ok (.getfield 241, 3) := by decide +kernel
theorem dX9_loads_189 : decode cX9_loads 189 = .ok (.aload_n 0, 1) := by decide +kernel
theorem dX9_loads_190 : decode cX9_loads 190 = .ok (.getfield 13, 3) := by decide +kernel
theorem dX9_loads_193 : decode cX9_loads 193 = .ok (.iload_n 2, 1) := by decide +kernel
theorem dX9_loads_194 : decode cX9_loads 194 = .ok (.iaload, 1) := by decide +kernel
theorem dX9_loads_195 : decode cX9_loads 195 = .ok (.iadd, 1) := by decide +kernel
theorem dX9_loads_196 : decode cX9_loads 196 = .ok (.putfield 241, 3) := by decide +kernel
theorem dX9_loads_199 : decode cX9_loads 199 = .ok (.goto (-167), 3) := by decide +kernel
theorem dX9_loads_202 : decode cX9_loads 202 = .ok (.return_, 1) := by decide +kernel
theorem dX9_loadNow_0 : decode cX9_loadNow 0 = .ok (.iload_n 1, 1) := by decide +kernel
theorem dX9_loadNow_1 : decode cX9_loadNow 1 = .ok (.iconst 2, 1) := by decide +kernel
theorem dX9_loadNow_2 : decode cX9_loadNow 2 = .ok (.if_icmp .ne 9, 3) := by decide +kernel
theorem dX9_loadNow_5 : decode cX9_loadNow 5 = .ok (.aload_n 0, 1) := by decide +kernel
theorem dX9_loadNow_6 : decode cX9_loadNow 6 = .ok (.iload_n 2, 1) := by decide +kernel
theorem dX9_loadNow_7 : decode cX9_loadNow 7 = .ok (.invokevirtual 250, 3) := by decide +kernel
theorem dX9_loadNow_10 : decode cX9_loadNow 10 = .ok (.lreturn, 1) := by decide +kernel
theorem dX9_loadNow_11 : decode cX9_loadNow 11 = .ok (.lconst 0, 1) := by decide +kernel
theorem dX9_loadNow_12 : decode cX9_loadNow 12 = .ok (.lstore_n 3, 1) := by decide +kernel
theorem dX9_loadNow_13 : decode cX9_loadNow 13 = .ok (.iload_n 1, 1) := by decide +kernel
theorem dX9_loadNow_14 : decode cX9_loadNow 14 = .ok (.ifCond .ne 20, 3) := by decide +kernel
theorem dX9_loadNow_17 : decode cX9_loadNow 17 = .ok (.aload_n 0, 1) := by decide +kernel
theorem dX9_loadNow_18 : decode cX9_loadNow 18 = .ok (.invokevirtual 199, 3) := by decide +kernel
theorem dX9_loadNow_21 : decode cX9_loadNow 21 = .ok (.aload_n 0, 1) := by decide +kernel
theorem dX9_loadNow_22 : decode cX9_loadNow 22 = .ok (.iconst (-1), 1) := by decide +kernel
theorem dX9_loadNow_23 : decode cX9_loadNow 23 = .ok (.invokevirtual 232, 3) := by decide +kernel
theorem dX9_loadNow_26 : decode cX9_loadNow 26 = .ok (.aload_n 0, 1) := by decide +kernel
theorem dX9_loadNow_27 : decode cX9_loadNow 27 = .ok (.getfield 228, 3) := by decide +kernel
theorem dX9_loadNow_30 : decode cX9_loadNow 30 = .ok (.lstore_n 3, 1) := by decide +kernel
theorem dX9_loadNow_31 : decode cX9_loadNow 31 = .ok (.goto 39, 3) := by decide +kernel
theorem dX9_loadNow_34 : decode cX9_loadNow 34 = .ok (.aload_n 0, 1) := by decide +kernel
theorem dX9_loadNow_35 : decode cX9_loadNow 35 = .ok (.invokevirtual 244, 3) := by decide +kernel
theorem dX9_loadNow_38 : decode cX9_loadNow 38 = .ok (.iconst 0, 1) := by decide +kernel
theorem dX9_loadNow_39 : decode cX9_loadNow 39 = .ok (.istore 5, 2) := by decide +kernel
theorem dX9_loadNow_41 : decode cX9_loadNow 41 = .ok (.iload 5, 2) := by decide +kernel
theorem dX9_loadNow_43 : decode cX9_loadNow 43 = .ok (.bipush 6, 2) := by decide +kernel
theorem dX9_loadNow_45 : decode cX9_loadNow 45 = .ok (.if_icmp .ge 25, 3) := by decide +kernel
theorem dX9_loadNow_48 : decode cX9_loadNow 48 = .ok (.lload_n 3, 1) := by decide +kernel
theorem dX9_loadNow_49 : decode cX9_loadNow 49 = .ok (.aload_n 0, 1) := by decide +kernel
theorem dX9_loadNow_50 : decode cX9_loadNow 50 = .ok (.iload 5, 2) := by decide +kernel
theorem dX9_loadNow_52 : decode cX9_loadNow 52 = .ok (.aload_n 0, 1) := by decide +kernel
theorem dX9_loadNow_53 : decode cX9_loadNow 53 = .ok (.getfield 78, 3) := by decide +kernel
theorem dX9_loadNow_56 : decode cX9_loadNow 56 = .ok (.iload 5, 2) := by decide +kernel
theorem dX9_loadNow_58 : decode cX9_loadNow 58 = .ok (.iaload, 1) := by decide +kernel
theorem dX9_loadNow_59 : decode cX9_loadNow 59 = .ok (.invokevirtual 218, 3) := by decide +kernel
theorem dX9_loadNow_62 : decode cX9_loadNow 62 = .ok (.ladd, 1) := by decide +kernel
theorem dX9_loadNow_63 : decode cX9_loadNow 63 = .ok (.lstore_n 3, 1) := by decide +kernel
theorem dX9_loadNow_64 : decode cX9_loadNow 64 = .ok (.iinc 5 1, 3) := by decide +kernel
theorem dX9_loadNow_67 : decode cX9_loadNow 67 = .ok (.goto (-26), 3) := by decide +kernel
theorem dX9_loadNow_70 : decode cX9_loadNow 70 = .ok (.lload_n 3, 1) := by decide +kernel
theorem dX9_loadNow_71 : decode cX9_loadNow 71 = .ok (.aload_n 0, 1) := by decide +kernel
theorem dX9_loadNow_72 : decode cX9_loadNow 72 = .ok (.getfield 184, 3) := by decide +kernel
theorem dX9_loadNow_75 : decode cX9_loadNow 75 = .ok (.invokestatic 193, 3) := by decide +kernel
theorem dX9_loadNow_78 : decode cX9_loadNow 78 = .ok (.iload_n 2, 1) := by decide +kernel
theorem dX9_loadNow_79 : decode cX9_loadNow 79 = .ok (.invokestatic 214, 3) := by decide +kernel
theorem dX9_loadNow_82 : decode cX9_loadNow 82 = .ok (.lreturn, 1) := by decide +kernel
theorem dX9_loadedNow_0 : decode cX9_loadedNow 0 = .ok (.aload_n 0, 1) := by decide +kernel
theorem dX9_loadedNow_1 : decode cX9_loadedNow 1 = .ok (.invokevirtual 244, 3) := by decide +kernel
theorem dX9_loadedNow_4 : decode cX9_loadedNow 4 = .ok (.iload_n 1, 1) := by decide +kernel
theorem dX9_loadedNow_5 : decode cX9_loadedNow 5 = .ok (.iconst (-1), 1) := by decide +kernel
theorem dX9_loadedNow_6 : decode cX9_loadedNow 6 = .ok (.if_icmp .ne 10, 3) := by decide +kernel
theorem dX9_loadedNow_9 : decode cX9_loadedNow 9 = .ok (.aload_n 0, 1) := by decide +kernel
theorem dX9_loadedNow_10 : decode cX9_loadedNow 10 = .ok (.getfield 241, 3) := by decide +kernel
theorem dX9_loadedNow_13 : decode cX9_loadedNow 13 = .ok (.goto 9, 3) := by decide +kernel
theorem dX9_loadedNow_16 : decode cX9_loadedNow 16 = .ok (.aload_n 0, 1) := by decide +kernel
theorem dX9_loadedNow_17 : decode cX9_loadedNow 17 = .ok (.getfield 78, 3) := by decide +kernel
theorem dX9_loadedNow_20 : decode cX9_loadedNow 20 = .ok (.iload_n 1, 1) := by decide +kernel
theorem dX9_loadedNow_21 : decode cX9_loadedNow 21 = .ok (.iaload, 1) := by decide +kernel
theorem dX9_loadedNow_22 : decode cX9_loadedNow 22 = .ok (.ireturn, 1) := by decide +kernel
theorem dX9_strapsNow_0 : decode cX9_strapsNow 0 = .ok (.aload_n 0, 1) := by decide +kernel
theorem dX9_strapsNow_1 : decode cX9_strapsNow 1 = .ok (.invokevirtual 199, 3) := by decide +kernel
theorem dX9_strapsNow_4 : decode cX9_strapsNow 4 = .ok (.aload_n 0, 1) := by decide +kernel
theorem dX9_strapsNow_5 : decode cX9_strapsNow 5 = .ok (.iconst (-1), 1) := by decide +kernel
theorem dX9_strapsNow_6 : decode cX9_strapsNow 6 = .ok (.invokevirtual 232, 3) := by decide +kernel
theorem dX9_strapsNow_9 : decode cX9_strapsNow 9 = .ok (.iconst 0, 1) := by decide +kernel
theorem dX9_strapsNow_10 : decode cX9_strapsNow 10 = .ok (.istore_n 1, 1) := by decide +kernel
theorem dX9_strapsNow_11 : decode cX9_strapsNow 11 = .ok (.iload_n 1, 1) := by decide +kernel
theorem dX9_strapsNow_12 : decode cX9_strapsNow 12 = .ok (.bipush 6, 2) := by decide +kernel
theorem dX9_strapsNow_14 : decode cX9_strapsNow 14 = .ok (.if_icmp .ge 21, 3) := by decide +kernel
theorem dX9_strapsNow_17 : decode cX9_strapsNow 17 = .ok (.aload_n 0, 1) := by decide +kernel
theorem dX9_strapsNow_18 : decode cX9_strapsNow 18 = .ok (.getfield 93, 3) := by decide +kernel
theorem dX9_strapsNow_21 : decode cX9_strapsNow 21 = .ok (.iload_n 1, 1) := by decide +kernel
theorem dX9_strapsNow_22 : decode cX9_strapsNow 22 = .ok (.aload_n 0, 1) := by decide +kernel
theorem dX9_strapsNow_23 : decode cX9_strapsNow 23 = .ok (.getfield 75, 3) := by decide +kernel
theorem dX9_strapsNow_26 : decode cX9_strapsNow 26 = .ok (.iload_n 1, 1) := by decide +kernel
theorem dX9_strapsNow_27 : decode cX9_strapsNow 27 = .ok (.iaload, 1) := by decide +kernel
theorem dX9_strapsNow_28 : decode cX9_strapsNow 28 = .ok (.iastore, 1) := by decide +kernel
theorem dX9_strapsNow_29 : decode cX9_strapsNow 29 = .ok (.iinc 1 1, 3) := by decide +kernel
theorem dX9_strapsNow_32 : decode cX9_strapsNow 32 = .ok (.goto (-21), 3) := by decide +kernel
theorem dX9_strapsNow_35 : decode cX9_strapsNow 35 = .ok (.iconst (-1), 1) := by decide +kernel
theorem dX9_strapsNow_36 : decode cX9_strapsNow 36 = .ok (.istore_n 1, 1) := by decide +kernel
theorem dX9_strapsNow_37 : decode cX9_strapsNow 37 = .ok (.lconst 0, 1) := by decide +kernel
theorem dX9_strapsNow_38 : decode cX9_strapsNow 38 = .ok (.lstore_n 2, 1) := by decide +kernel
theorem dX9_strapsNow_39 : decode cX9_strapsNow 39 = .ok (.iconst 0, 1) := by decide +kernel
theorem dX9_strapsNow_40 : decode cX9_strapsNow 40 = .ok (.istore 4, 2) := by decide +kernel
theorem dX9_strapsNow_42 : decode cX9_strapsNow 42 = .ok (.iload 4, 2) := by decide +kernel
theorem dX9_strapsNow_44 : decode cX9_strapsNow 44 = .ok (.bipush 6, 2) := by decide +kernel
theorem dX9_strapsNow_46 : decode cX9_strapsNow 46 = .ok (.if_icmp .ge 73, 3) := by decide +kernel
theorem dX9_strapsNow_49 : decode cX9_strapsNow 49 = .ok (.aload_n 0, 1) := by decide +kernel
theorem dX9_strapsNow_50 : decode cX9_strapsNow 50 = .ok (.getfield 93, 3) := by decide +kernel
theorem dX9_strapsNow_53 : decode cX9_strapsNow 53 = .ok (.iload 4, 2) := by decide +kernel
theorem dX9_strapsNow_55 : decode cX9_strapsNow 55 = .ok (.iaload, 1) := by decide +kernel
theorem dX9_strapsNow_56 : decode cX9_strapsNow 56 = .ok (.ifCond .le 57, 3) := by decide +kernel
theorem dX9_strapsNow_59 : decode cX9_strapsNow 59 = .ok (.aload_n 0, 1) := by decide +kernel
theorem dX9_strapsNow_60 : decode cX9_strapsNow 60 = .ok (.iload 4, 2) := by decide +kernel
theorem dX9_strapsNow_62 : decode cX9_strapsNow 62 = .ok (.invokevirtual 293, 3) := by decide +kernel
theorem dX9_strapsNow_65 : decode cX9_strapsNow 65 = .ok (.lstore 5, 2) := by decide +kernel
theorem dX9_strapsNow_67 : decode cX9_strapsNow 67 = .ok (.iload_n 1, 1) := by decide +kernel
theorem dX9_strapsNow_68 : decode cX9_strapsNow 68 = .ok (.iconst (-1), 1) := by decide +kernel
theorem dX9_strapsNow_69 : decode cX9_strapsNow 69 = .ok (.if_icmp .eq 38, 3) := by decide +kernel
theorem dX9_strapsNow_72 : decode cX9_strapsNow 72 = .ok (.lload 5, 2) := by decide +kernel
theorem dX9_strapsNow_74 : decode cX9_strapsNow 74 = .ok (.aload_n 0, 1) := by decide +kernel
theorem dX9_strapsNow_75 : decode cX9_strapsNow 75 = .ok (.iload_n 1, 1) := by decide +kernel
theorem dX9_strapsNow_76 : decode cX9_strapsNow 76 = .ok (.aload_n 0, 1) := by decide +kernel
theorem dX9_strapsNow_77 : decode cX9_strapsNow 77 = .ok (.getfield 93, 3) := by decide +kernel
theorem dX9_strapsNow_80 : decode cX9_strapsNow 80 = .ok (.iload_n 1, 1) := by decide +kernel
theorem dX9_strapsNow_81 : decode cX9_strapsNow 81 = .ok (.iaload, 1) := by decide +kernel
theorem dX9_strapsNow_82 : decode cX9_strapsNow 82 = .ok (.invokevirtual 235, 3) := by decide +kernel
theorem dX9_strapsNow_85 : decode cX9_strapsNow 85 = .ok (.i2l, 1) := by decide +kernel
theorem dX9_strapsNow_86 : decode cX9_strapsNow 86 = .ok (.lmul, 1) := by decide +kernel
theorem dX9_strapsNow_87 : decode cX9_strapsNow 87 = .ok (.lload_n 2, 1) := by decide +kernel
theorem dX9_strapsNow_88 : decode cX9_strapsNow 88 = .ok (.aload_n 0, 1) := by decide +kernel
theorem dX9_strapsNow_89 : decode cX9_strapsNow 89 = .ok (.iload 4, 2) := by decide +kernel
theorem dX9_strapsNow_91 : decode cX9_strapsNow 91 = .ok (.aload_n 0, 1) := by decide +kernel
theorem dX9_strapsNow_92 : decode cX9_strapsNow 92 = .ok (.getfield 93, 3) := by decide +kernel
theorem dX9_strapsNow_95 : decode cX9_strapsNow 95 = .ok (.iload 4, 2) := by decide +kernel
theorem dX9_strapsNow_97 : decode cX9_strapsNow 97 = .ok (.iaload, 1) := by decide +kernel
theorem dX9_strapsNow_98 : decode cX9_strapsNow 98 = .ok (.invokevirtual 235, 3) := by decide +kernel
theorem dX9_strapsNow_101 : decode cX9_strapsNow 101 = .ok (.i2l, 1) := by decide +kernel
theorem dX9_strapsNow_102 : decode cX9_strapsNow 102 = .ok (.lmul, 1) := by decide +kernel
theorem dX9_strapsNow_103 : decode cX9_strapsNow 103 = .ok (.lcmp, 1) := by decide +kernel
theorem dX9_strapsNow_104 : decode cX9_strapsNow 104 = .ok (.ifCond .ge 9, 3) := by decide +kernel
theorem dX9_strapsNow_107 : decode cX9_strapsNow 107 = .ok (.iload 4, 2) := by decide +kernel
theorem dX9_strapsNow_109 : decode cX9_strapsNow 109 = .ok (.istore_n 1, 1) := by decide +kernel
theorem dX9_strapsNow_110 : decode cX9_strapsNow 110 = .ok (.lload 5, 2) := by decide +kernel
theorem dX9_strapsNow_112 : decode cX9_strapsNow 112 = .ok (.lstore_n 2, 1) := by decide +kernel
theorem dX9_strapsNow_113 : decode cX9_strapsNow 113 = .ok (.iinc 4 1, 3) := by decide +kernel
theorem dX9_strapsNow_116 : decode cX9_strapsNow 116 = .ok (.goto (-74), 3) := by decide +kernel
theorem dX9_strapsNow_119 : decode cX9_strapsNow 119 = .ok (.iload_n 1, 1) := by decide +kernel
theorem dX9_strapsNow_120 : decode cX9_strapsNow 120 = .ok (.ireturn, 1) := by decide +kernel
theorem dX9_thingNow_0 : decode cX9_thingNow 0 = .ok (.iload_n 2, 1) := by decide +kernel
theorem dX9_thingNow_1 : decode cX9_thingNow 1 = .ok (.ifCond .ne 12, 3) := by decide +kernel
theorem dX9_thingNow_4 : decode cX9_thingNow 4 = .ok (.aload_n 0, 1) := by decide +kernel
theorem dX9_thingNow_5 : decode cX9_thingNow 5 = .ok (.getfield 7, 3) := by decide +kernel
theorem dX9_thingNow_8 : decode cX9_thingNow 8 = .ok (.iload_n 1, 1) := by decide +kernel
theorem dX9_thingNow_9 : decode cX9_thingNow 9 = .ok (.iaload, 1) := by decide +kernel
theorem dX9_thingNow_10 : decode cX9_thingNow 10 = .ok (.goto 43, 3) := by decide +kernel
theorem dX9_thingNow_13 : decode cX9_thingNow 13 = .ok (.iload_n 2, 1) := by decide +kernel
theorem dX9_thingNow_14 : decode cX9_thingNow 14 = .ok (.iconst 1, 1) := by decide +kernel
theorem dX9_thingNow_15 : decode cX9_thingNow 15 = .ok (.if_icmp .ne 12, 3) := by decide +kernel
theorem dX9_thingNow_18 : decode cX9_thingNow 18 = .ok (.aload_n 0, 1) := by decide +kernel
theorem dX9_thingNow_19 : decode cX9_thingNow 19 = .ok (.getfield 13, 3) := by decide +kernel
theorem dX9_thingNow_22 : decode cX9_thingNow 22 = .ok (.iload_n 1, 1) := by decide +kernel
theorem dX9_thingNow_23 : decode cX9_thingNow 23 = .ok (.iaload, 1) := by decide +kernel
theorem dX9_thingNow_24 : decode cX9_thingNow 24 = .ok (.goto 29, 3) := by decide +kernel
theorem dX9_thingNow_27 : decode cX9_thingNow 27 = .ok (.iload_n 2, 1) := by decide +kernel
theorem dX9_thingNow_28 : decode cX9_thingNow 28 = .ok (.iconst 2, 1) := by decide +kernel
theorem dX9_thingNow_29 : decode cX9_thingNow 29 = .ok (.if_icmp .ne 12, 3) := by decide +kernel
theorem dX9_thingNow_32 : decode cX9_thingNow 32 = .ok (.aload_n 0, 1) := by decide +kernel
theorem dX9_thingNow_33 : decode cX9_thingNow 33 = .ok (.getfield 16, 3) := by decide +kernel
theorem dX9_thingNow_36 : decode cX9_thingNow 36 = .ok (.iload_n 1, 1) := by decide +kernel
theorem dX9_thingNow_37 : decode cX9_thingNow 37 = .ok (.iaload, 1) := by decide +kernel
theorem dX9_thingNow_38 : decode cX9_thingNow 38 = .ok (.goto 15, 3) := by decide +kernel
theorem dX9_thingNow_41 : decode cX9_thingNow 41 = .ok (.aload_n 0, 1) := by decide +kernel
theorem dX9_thingNow_42 : decode cX9_thingNow 42 = .ok (.getfield 19, 3) := by decide +kernel
theorem dX9_thingNow_45 : decode cX9_thingNow 45 = .ok (.iconst 3, 1) := by decide +kernel
theorem dX9_thingNow_46 : decode cX9_thingNow 46 = .ok (.iload_n 1, 1) := by decide +kernel
theorem dX9_thingNow_47 : decode cX9_thingNow 47 = .ok (.imul, 1) := by decide +kernel
theorem dX9_thingNow_48 : decode cX9_thingNow 48 = .ok (.iload_n 2, 1) := by decide +kernel
theorem dX9_thingNow_49 : decode cX9_thingNow 49 = .ok (.iadd, 1) := by decide +kernel
theorem dX9_thingNow_50 : decode cX9_thingNow 50 = .ok (.iconst 3, 1) := by decide +kernel
theorem dX9_thingNow_51 : decode cX9_thingNow 51 = .ok (.isub, 1) := by decide +kernel
theorem dX9_thingNow_52 : decode cX9_thingNow 52 = .ok (.iaload, 1) := by decide +kernel
theorem dX9_thingNow_53 : decode cX9_thingNow 53 = .ok (.ireturn, 1) := by decide +kernel
theorem dX9_digest_0 : decode cX9_digest 0 = .ok (.ldc2_w 313, 3) := by decide +kernel
theorem dX9_digest_3 : decode cX9_digest 3 = .ok (.lstore_n 1, 1) := by decide +kernel
theorem dX9_digest_4 : decode cX9_digest 4 = .ok (.iconst 0, 1) := by decide +kernel
theorem dX9_digest_5 : decode cX9_digest 5 = .ok (.istore_n 3, 1) := by decide +kernel
theorem dX9_digest_6 : decode cX9_digest 6 = .ok (.iload_n 3, 1) := by decide +kernel
theorem dX9_digest_7 : decode cX9_digest 7 = .ok (.bipush 8, 2) := by decide +kernel
theorem dX9_digest_9 : decode cX9_digest 9 = .ok (.if_icmp .ge 22, 3) := by decide +kernel
theorem dX9_digest_12 : decode cX9_digest 12 = .ok (.ldc2_w 315, 3) := by decide +kernel
theorem dX9_digest_15 : decode cX9_digest 15 = .ok (.lload_n 1, 1) := by decide +kernel
theorem dX9_digest_16 : decode cX9_digest 16 = .ok (.lmul, 1) := by decide +kernel
theorem dX9_digest_17 : decode cX9_digest 17 = .ok (.aload_n 0, 1) := by decide +kernel
theorem dX9_digest_18 : decode cX9_digest 18 = .ok (.iload_n 3, 1) := by decide +kernel
theorem dX9_digest_19 : decode cX9_digest 19 = .ok (.invokevirtual 317, 3) := by decide +kernel
theorem dX9_digest_22 : decode cX9_digest 22 = .ok (.i2l, 1) := by decide +kernel
theorem dX9_digest_23 : decode cX9_digest 23 = .ok (.ladd, 1) := by decide +kernel
theorem dX9_digest_24 : decode cX9_digest 24 = .ok (.lstore_n 1, 1) := by decide +kernel
theorem dX9_digest_25 : decode cX9_digest 25 = .ok (.iinc 3 1, 3) := by decide +kernel
theorem dX9_digest_28 : decode cX9_digest 28 = .ok (.goto (-22), 3) := by decide +kernel
theorem dX9_digest_31 : decode cX9_digest 31 = .ok (.ldc2_w 315, 3) := by decide +kernel
theorem dX9_digest_34 : decode cX9_digest 34 = .ok (.lload_n 1, 1) := by decide +kernel
theorem dX9_digest_35 : decode cX9_digest 35 = .ok (.lmul, 1) := by decide +kernel
theorem dX9_digest_36 : decode cX9_digest 36 = .ok (.aload_n 0, 1) := by decide +kernel
theorem dX9_digest_37 : decode cX9_digest 37 = .ok (.invokevirtual 159, 3) := by decide +kernel
theorem dX9_digest_40 : decode cX9_digest 40 = .ok (.i2l, 1) := by decide +kernel
theorem dX9_digest_41 : decode cX9_digest 41 = .ok (.ladd, 1) := by decide +kernel
theorem dX9_digest_42 : decode cX9_digest 42 = .ok (.lstore_n 1, 1) := by decide +kernel
theorem dX9_digest_43 : decode cX9_digest 43 = .ok (.iconst 0, 1) := by decide +kernel
theorem dX9_digest_44 : decode cX9_digest 44 = .ok (.istore_n 3, 1) := by decide +kernel
theorem dX9_digest_45 : decode cX9_digest 45 = .ok (.iload_n 3, 1) := by decide +kernel
theorem dX9_digest_46 : decode cX9_digest 46 = .ok (.bipush 6, 2) := by decide +kernel
theorem dX9_digest_48 : decode cX9_digest 48 = .ok (.if_icmp .ge 66, 3) := by decide +kernel
theorem dX9_digest_51 : decode cX9_digest 51 = .ok (.iconst 0, 1) := by decide +kernel
theorem dX9_digest_52 : decode cX9_digest 52 = .ok (.istore 4, 2) := by decide +kernel
theorem dX9_digest_54 : decode cX9_digest 54 = .ok (.iload 4, 2) := by decide +kernel
theorem dX9_digest_56 : decode cX9_digest 56 = .ok (.bipush 6, 2) := by decide +kernel
theorem dX9_digest_58 : decode cX9_digest 58 = .ok (.if_icmp .ge 24, 3) := by decide +kernel
theorem dX9_digest_61 : decode cX9_digest 61 = .ok (.ldc2_w 315, 3) := by decide +kernel
theorem dX9_digest_64 : decode cX9_digest 64 = .ok (.lload_n 1, 1) := by decide +kernel
theorem dX9_digest_65 : decode cX9_digest 65 = .ok (.lmul, 1) := by decide +kernel
theorem dX9_digest_66 : decode cX9_digest 66 = .ok (.aload_n 0, 1) := by decide +kernel
theorem dX9_digest_67 : decode cX9_digest 67 = .ok (.iload_n 3, 1) := by decide +kernel
theorem dX9_digest_68 : decode cX9_digest 68 = .ok (.iload 4, 2) := by decide +kernel
theorem dX9_digest_70 : decode cX9_digest 70 = .ok (.invokevirtual 122, 3) := by decide +kernel
theorem dX9_digest_73 : decode cX9_digest 73 = .ok (.i2l, 1) := by decide +kernel
theorem dX9_digest_74 : decode cX9_digest 74 = .ok (.ladd, 1) := by decide +kernel
theorem dX9_digest_75 : decode cX9_digest 75 = .ok (.lstore_n 1, 1) := by decide +kernel
theorem dX9_digest_76 : decode cX9_digest 76 = .ok (.iinc 4 1, 3) := by decide +kernel
theorem dX9_digest_79 : decode cX9_digest 79 = .ok (.goto (-25), 3) := by decide +kernel
theorem dX9_digest_82 : decode cX9_digest 82 = .ok (.ldc2_w 315, 3) := by decide +kernel
theorem dX9_digest_85 : decode cX9_digest 85 = .ok (.lload_n 1, 1) := by decide +kernel
theorem dX9_digest_86 : decode cX9_digest 86 = .ok (.lmul, 1) := by decide +kernel
theorem dX9_digest_87 : decode cX9_digest 87 = .ok (.aload_n 0, 1) := by decide +kernel
theorem dX9_digest_88 : decode cX9_digest 88 = .ok (.iload_n 3, 1) := by decide +kernel
theorem dX9_digest_89 : decode cX9_digest 89 = .ok (.invokevirtual 238, 3) := by decide +kernel
theorem dX9_digest_92 : decode cX9_digest 92 = .ok (.i2l, 1) := by decide +kernel
theorem dX9_digest_93 : decode cX9_digest 93 = .ok (.ladd, 1) := by decide +kernel
theorem dX9_digest_94 : decode cX9_digest 94 = .ok (.lstore_n 1, 1) := by decide +kernel
theorem dX9_digest_95 : decode cX9_digest 95 = .ok (.ldc2_w 315, 3) := by decide +kernel
theorem dX9_digest_98 : decode cX9_digest 98 = .ok (.lload_n 1, 1) := by decide +kernel
theorem dX9_digest_99 : decode cX9_digest 99 = .ok (.lmul, 1) := by decide +kernel
theorem dX9_digest_100 : decode cX9_digest 100 = .ok (.aload_n 0, 1) := by decide +kernel
theorem dX9_digest_101 : decode cX9_digest 101 = .ok (.iload_n 3, 1) := by decide +kernel
theorem dX9_digest_102 : decode cX9_digest 102 = .ok (.invokevirtual 247, 3) := by decide +kernel
theorem dX9_digest_105 : decode cX9_digest 105 = .ok (.i2l, 1) := by decide +kernel
theorem dX9_digest_106 : decode cX9_digest 106 = .ok (.ladd, 1) := by decide +kernel
theorem dX9_digest_107 : decode cX9_digest 107 = .ok (.lstore_n 1, 1) := by decide +kernel
theorem dX9_digest_108 : decode cX9_digest 108 = .ok (.iinc 3 1, 3) := by decide +kernel
theorem dX9_digest_111 : decode cX9_digest 111 = .ok (.goto (-66), 3) := by decide +kernel
theorem dX9_digest_114 : decode cX9_digest 114 = .ok (.ldc2_w 315, 3) := by decide +kernel
theorem dX9_digest_117 : decode cX9_digest 117 = .ok (.lload_n 1, 1) := by decide +kernel
theorem dX9_digest_118 : decode cX9_digest 118 = .ok (.lmul, 1) := by decide +kernel
theorem dX9_digest_119 : decode cX9_digest 119 = .ok (.aload_n 0, 1) := by decide +kernel
theorem dX9_digest_120 : decode cX9_digest 120 = .ok (.invokevirtual 205, 3) := by decide +kernel
theorem dX9_digest_123 : decode cX9_digest 123 = .ok (.i2l, 1) := by decide +kernel
theorem dX9_digest_124 : decode cX9_digest 124 = .ok (.ladd, 1) := by decide +kernel
theorem dX9_digest_125 : decode cX9_digest 125 = .ok (.lstore_n 1, 1) := by decide +kernel
theorem dX9_digest_126 : decode cX9_digest 126 = .ok (.ldc2_w 315, 3) := by decide +kernel
theorem dX9_digest_129 : decode cX9_digest 129 = .ok (.lload_n 1, 1) := by decide +kernel
theorem dX9_digest_130 : decode cX9_digest 130 = .ok (.lmul, 1) := by decide +kernel
theorem dX9_digest_131 : decode cX9_digest 131 = .ok (.aload_n 0, 1) := by decide +kernel
theorem dX9_digest_132 : decode cX9_digest 132 = .ok (.invokevirtual 208, 3) := by decide +kernel
theorem dX9_digest_135 : decode cX9_digest 135 = .ok (.i2l, 1) := by decide +kernel
theorem dX9_digest_136 : decode cX9_digest 136 = .ok (.ladd, 1) := by decide +kernel
theorem dX9_digest_137 : decode cX9_digest 137 = .ok (.lstore_n 1, 1) := by decide +kernel
theorem dX9_digest_138 : decode cX9_digest 138 = .ok (.aload_n 0, 1) := by decide +kernel
theorem dX9_digest_139 : decode cX9_digest 139 = .ok (.invokevirtual 222, 3) := by decide +kernel
theorem dX9_digest_142 : decode cX9_digest 142 = .ok (.lstore_n 3, 1) := by decide +kernel
theorem dX9_digest_143 : decode cX9_digest 143 = .ok (.ldc2_w 315, 3) := by decide +kernel
theorem dX9_digest_146 : decode cX9_digest 146 = .ok (.lload_n 1, 1) := by decide +kernel
theorem dX9_digest_147 : decode cX9_digest 147 = .ok (.lmul, 1) := by decide +kernel
theorem dX9_digest_148 : decode cX9_digest 148 = .ok (.lload_n 3, 1) := by decide +kernel
theorem dX9_digest_149 : decode cX9_digest 149 = .ok (.aload_n 0, 1) := by decide +kernel
theorem dX9_digest_150 : decode cX9_digest 150 = .ok (.getfield 178, 3) := by decide +kernel
theorem dX9_digest_153 : decode cX9_digest 153 = .ok (.invokestatic 193, 3) := by decide +kernel
theorem dX9_digest_156 : decode cX9_digest 156 = .ok (.iconst 0, 1) := by decide +kernel
theorem dX9_digest_157 : decode cX9_digest 157 = .ok (.invokestatic 214, 3) := by decide +kernel
theorem dX9_digest_160 : decode cX9_digest 160 = .ok (.ladd, 1) := by decide +kernel
theorem dX9_digest_161 : decode cX9_digest 161 = .ok (.lstore_n 1, 1) := by decide +kernel
theorem dX9_digest_162 : decode cX9_digest 162 = .ok (.ldc2_w 315, 3) := by decide +kernel
theorem dX9_digest_165 : decode cX9_digest 165 = .ok (.lload_n 1, 1) := by decide +kernel
theorem dX9_digest_166 : decode cX9_digest 166 = .ok (.lmul, 1) := by decide +kernel
theorem dX9_digest_167 : decode cX9_digest 167 = .ok (.lload_n 3, 1) := by decide +kernel
theorem dX9_digest_168 : decode cX9_digest 168 = .ok (.aload_n 0, 1) := by decide +kernel
theorem dX9_digest_169 : decode cX9_digest 169 = .ok (.getfield 178, 3) := by decide +kernel
theorem dX9_digest_172 : decode cX9_digest 172 = .ok (.invokestatic 193, 3) := by decide +kernel
theorem dX9_digest_175 : decode cX9_digest 175 = .ok (.iconst 1, 1) := by decide +kernel
theorem dX9_digest_176 : decode cX9_digest 176 = .ok (.invokestatic 214, 3) := by decide +kernel
theorem dX9_digest_179 : decode cX9_digest 179 = .ok (.ladd, 1) := by decide +kernel
theorem dX9_digest_180 : decode cX9_digest 180 = .ok (.lstore_n 1, 1) := by decide +kernel
theorem dX9_digest_181 : decode cX9_digest 181 = .ok (.iconst 0, 1) := by decide +kernel
theorem dX9_digest_182 : decode cX9_digest 182 = .ok (.istore 5, 2) := by decide +kernel
theorem dX9_digest_184 : decode cX9_digest 184 = .ok (.iload 5, 2) := by decide +kernel
theorem dX9_digest_186 : decode cX9_digest 186 = .ok (.iconst 3, 1) := by decide +kernel
theorem dX9_digest_187 : decode cX9_digest 187 = .ok (.if_icmp .ge 37, 3) := by decide +kernel
theorem dX9_digest_190 : decode cX9_digest 190 = .ok (.ldc2_w 315, 3) := by decide +kernel
theorem dX9_digest_193 : decode cX9_digest 193 = .ok (.lload_n 1, 1) := by decide +kernel
theorem dX9_digest_194 : decode cX9_digest 194 = .ok (.lmul, 1) := by decide +kernel
theorem dX9_digest_195 : decode cX9_digest 195 = .ok (.aload_n 0, 1) := by decide +kernel
theorem dX9_digest_196 : decode cX9_digest 196 = .ok (.iload 5, 2) := by decide +kernel
theorem dX9_digest_198 : decode cX9_digest 198 = .ok (.iconst 0, 1) := by decide +kernel
theorem dX9_digest_199 : decode cX9_digest 199 = .ok (.invokevirtual 253, 3) := by decide +kernel
theorem dX9_digest_202 : decode cX9_digest 202 = .ok (.ladd, 1) := by decide +kernel
theorem dX9_digest_203 : decode cX9_digest 203 = .ok (.lstore_n 1, 1) := by decide +kernel
theorem dX9_digest_204 : decode cX9_digest 204 = .ok (.ldc2_w 315, 3) := by decide +kernel
theorem dX9_digest_207 : decode cX9_digest 207 = .ok (.lload_n 1, 1) := by decide +kernel
theorem dX9_digest_208 : decode cX9_digest 208 = .ok (.lmul, 1) := by decide +kernel
theorem dX9_digest_209 : decode cX9_digest 209 = .ok (.aload_n 0, 1) := by decide +kernel
theorem dX9_digest_210 : decode cX9_digest 210 = .ok (.iload 5, 2) := by decide +kernel
theorem dX9_digest_212 : decode cX9_digest 212 = .ok (.iconst 1, 1) := by decide +kernel
theorem dX9_digest_213 : decode cX9_digest 213 = .ok (.invokevirtual 253, 3) := by decide +kernel
theorem dX9_digest_216 : decode cX9_digest 216 = .ok (.ladd, 1) := by decide +kernel
theorem dX9_digest_217 : decode cX9_digest 217 = .ok (.lstore_n 1, 1) := by decide +kernel
theorem dX9_digest_218 : decode cX9_digest 218 = .ok (.iinc 5 1, 3) := by decide +kernel
theorem dX9_digest_221 : decode cX9_digest 221 = .ok (.goto (-37), 3) := by decide +kernel
theorem dX9_digest_224 : decode cX9_digest 224 = .ok (.ldc2_w 315, 3) := by decide +kernel
theorem dX9_digest_227 : decode cX9_digest 227 = .ok (.lload_n 1, 1) := by decide +kernel
theorem dX9_digest_228 : decode cX9_digest 228 = .ok (.lmul, 1) := by decide +kernel
theorem dX9_digest_229 : decode cX9_digest 229 = .ok (.aload_n 0, 1) := by decide +kernel
theorem dX9_digest_230 : decode cX9_digest 230 = .ok (.invokevirtual 296, 3) := by decide +kernel
theorem dX9_digest_233 : decode cX9_digest 233 = .ok (.i2l, 1) := by decide +kernel
theorem dX9_digest_234 : decode cX9_digest 234 = .ok (.ladd, 1) := by decide +kernel
theorem dX9_digest_235 : decode cX9_digest 235 = .ok (.lreturn, 1) := by decide +kernel
theorem dX9_fault_0 : decode cX9_fault 0 = .ok (.aload_n 0, 1) := by decide +kernel
theorem dX9_fault_1 : decode cX9_fault 1 = .ok (.invokevirtual 159, 3) := by decide +kernel
theorem dX9_fault_4 : decode cX9_fault 4 = .ok (.ireturn, 1) := by decide +kernel
theorem dX9_gain_0 : decode cX9_gain 0 = .ok (.iload_n 1, 1) := by decide +kernel
theorem dX9_gain_1 : decode cX9_gain 1 = .ok (.iconst 0, 1) := by decide +kernel
theorem dX9_gain_2 : decode cX9_gain 2 = .ok (.iconst 1, 1) := by decide +kernel
theorem dX9_gain_3 : decode cX9_gain 3 = .ok (.invokestatic 114, 3) := by decide +kernel
theorem dX9_gain_6 : decode cX9_gain 6 = .ok (.ifCond .eq 21, 3) := by decide +kernel
theorem dX9_gain_9 : decode cX9_gain 9 = .ok (.aload_n 0, 1) := by decide +kernel
theorem dX9_gain_10 : decode cX9_gain 10 = .ok (.invokevirtual 222, 3) := by decide +kernel
theorem dX9_gain_13 : decode cX9_gain 13 = .ok (.aload_n 0, 1) := by decide +kernel
theorem dX9_gain_14 : decode cX9_gain 14 = .ok (.getfield 178, 3) := by decide +kernel
theorem dX9_gain_17 : decode cX9_gain 17 = .ok (.invokestatic 193, 3) := by decide +kernel
theorem dX9_gain_20 : decode cX9_gain 20 = .ok (.iload_n 1, 1) := by decide +kernel
theorem dX9_gain_21 : decode cX9_gain 21 = .ok (.invokestatic 214, 3) := by decide +kernel
theorem dX9_gain_24 : decode cX9_gain 24 = .ok (.goto 8, 3) := by decide +kernel
theorem dX9_gain_27 : decode cX9_gain 27 = .ok (.bipush (-2), 2) := by decide +kernel
theorem dX9_gain_29 : decode cX9_gain 29 = .ok (.invokestatic 211, 3) := by decide +kernel
theorem dX9_gain_32 : decode cX9_gain 32 = .ok (.lreturn, 1) := by decide +kernel
theorem dX9_lacks_0 : decode cX9_lacks 0 = .ok (.aload_n 0, 1) := by decide +kernel
theorem dX9_lacks_1 : decode cX9_lacks 1 = .ok (.getfield 96, 3) := by decide +kernel
theorem dX9_lacks_4 : decode cX9_lacks 4 = .ok (.iload_n 1, 1) := by decide +kernel
theorem dX9_lacks_5 : decode cX9_lacks 5 = .ok (.baload, 1) := by decide +kernel
theorem dX9_lacks_6 : decode cX9_lacks 6 = .ok (.ifCond .ne 7, 3) := by decide +kernel
theorem dX9_lacks_9 : decode cX9_lacks 9 = .ok (.iconst 1, 1) := by decide +kernel
theorem dX9_lacks_10 : decode cX9_lacks 10 = .ok (.goto 38, 3) := by decide +kernel
theorem dX9_lacks_13 : decode cX9_lacks 13 = .ok (.aload_n 0, 1) := by decide +kernel
theorem dX9_lacks_14 : decode cX9_lacks 14 = .ok (.getfield 100, 3) := by decide +kernel
theorem dX9_lacks_17 : decode cX9_lacks 17 = .ok (.iload_n 1, 1) := by decide +kernel
theorem dX9_lacks_18 : decode cX9_lacks 18 = .ok (.iaload, 1) := by decide +kernel
theorem dX9_lacks_19 : decode cX9_lacks 19 = .ok (.iload_n 2, 1) := by decide +kernel
theorem dX9_lacks_20 : decode cX9_lacks 20 = .ok (.if_icmp .eq 7, 3) := by decide +kernel
theorem dX9_lacks_23 : decode cX9_lacks 23 = .ok (.iconst 3, 1) := by decide +kernel
theorem dX9_lacks_24 : decode cX9_lacks 24 = .ok (.goto 24, 3) := by decide +kernel
theorem dX9_lacks_27 : decode cX9_lacks 27 = .ok (.iload_n 3, 1) := by decide +kernel
theorem dX9_lacks_28 : decode cX9_lacks 28 = .ok (.iconst 0, 1) := by decide +kernel
theorem dX9_lacks_29 : decode cX9_lacks 29 = .ok (.aload_n 0, 1) := by decide +kernel
theorem dX9_lacks_30 : decode cX9_lacks 30 = .ok (.getfield 103, 3) := by decide +kernel
theorem dX9_lacks_33 : decode cX9_lacks 33 = .ok (.iload_n 1, 1) := by decide +kernel
theorem dX9_lacks_34 : decode cX9_lacks 34 = .ok (.iaload, 1) := by decide +kernel
theorem dX9_lacks_35 : decode cX9_lacks 35 = .ok (.iconst 1, 1) := by decide +kernel
theorem dX9_lacks_36 : decode cX9_lacks 36 = .ok (.isub, 1) := by decide +kernel
theorem dX9_lacks_37 : decode cX9_lacks 37 = .ok (.invokestatic 114, 3) := by decide +kernel
theorem dX9_lacks_40 : decode cX9_lacks 40 = .ok (.ifCond .eq 7, 3) := by decide +kernel
theorem dX9_lacks_43 : decode cX9_lacks 43 = .ok (.iconst 0, 1) := by decide +kernel
theorem dX9_lacks_44 : decode cX9_lacks 44 = .ok (.goto 4, 3) := by decide +kernel
theorem dX9_lacks_47 : decode cX9_lacks 47 = .ok (.iconst 2, 1) := by decide +kernel
theorem dX9_lacks_48 : decode cX9_lacks 48 = .ok (.ireturn, 1) := by decide +kernel
theorem dX9_get_0 : decode cX9_get 0 = .ok (.iload_n 1, 1) := by decide +kernel
theorem dX9_get_1 : decode cX9_get 1 = .ok (.invokestatic 165, 3) := by decide +kernel
theorem dX9_get_4 : decode cX9_get 4 = .ok (.ifCond .eq 12, 3) := by decide +kernel
theorem dX9_get_7 : decode cX9_get 7 = .ok (.iload_n 2, 1) := by decide +kernel
theorem dX9_get_8 : decode cX9_get 8 = .ok (.iconst 0, 1) := by decide +kernel
theorem dX9_get_9 : decode cX9_get 9 = .ok (.iconst 2, 1) := by decide +kernel
theorem dX9_get_10 : decode cX9_get 10 = .ok (.invokestatic 114, 3) := by decide +kernel
theorem dX9_get_13 : decode cX9_get 13 = .ok (.ifCond .ne 7, 3) := by decide +kernel
theorem dX9_get_16 : decode cX9_get 16 = .ok (.ldc_w 309, 3) := by decide +kernel
theorem dX9_get_19 : decode cX9_get 19 = .ok (.ireturn, 1) := by decide +kernel
theorem dX9_get_20 : decode cX9_get 20 = .ok (.aload_n 0, 1) := by decide +kernel
theorem dX9_get_21 : decode cX9_get 21 = .ok (.iload_n 1, 1) := by decide +kernel
theorem dX9_get_22 : decode cX9_get 22 = .ok (.iload_n 2, 1) := by decide +kernel
theorem dX9_get_23 : decode cX9_get 23 = .ok (.iload_n 3, 1) := by decide +kernel
theorem dX9_get_24 : decode cX9_get 24 = .ok (.invokevirtual 302, 3) := by decide +kernel
theorem dX9_get_27 : decode cX9_get 27 = .ok (.istore 4, 2) := by decide +kernel
theorem dX9_get_29 : decode cX9_get 29 = .ok (.iload 4, 2) := by decide +kernel
theorem dX9_get_31 : decode cX9_get 31 = .ok (.ifCond .le 13, 3) := by decide +kernel
theorem dX9_get_34 : decode cX9_get 34 = .ok (.aload_n 0, 1) := by decide +kernel
theorem dX9_get_35 : decode cX9_get 35 = .ok (.iload 4, 2) := by decide +kernel
theorem dX9_get_37 : decode cX9_get 37 = .ok (.putfield 299, 3) := by decide +kernel
theorem dX9_get_40 : decode cX9_get 40 = .ok (.ldc_w 309, 3) := by decide +kernel
theorem dX9_get_43 : decode cX9_get 43 = .ok (.ireturn, 1) := by decide +kernel
theorem dX9_get_44 : decode cX9_get 44 = .ok (.aload_n 0, 1) := by decide +kernel
theorem dX9_get_45 : decode cX9_get 45 = .ok (.getfield 106, 3) := by decide +kernel
theorem dX9_get_48 : decode cX9_get 48 = .ok (.bipush 40, 2) := by decide +kernel
theorem dX9_get_50 : decode cX9_get 50 = .ok (.iload_n 1, 1) := by decide +kernel
theorem dX9_get_51 : decode cX9_get 51 = .ok (.imul, 1) := by decide +kernel
theorem dX9_get_52 : decode cX9_get 52 = .ok (.iload_n 3, 1) := by decide +kernel
theorem dX9_get_53 : decode cX9_get 53 = .ok (.iadd, 1) := by decide +kernel
theorem dX9_get_54 : decode cX9_get 54 = .ok (.iaload, 1) := by decide +kernel
theorem dX9_get_55 : decode cX9_get 55 = .ok (.ireturn, 1) := by decide +kernel
theorem dX9_hours_0 : decode cX9_hours 0 = .ok (.aload_n 0, 1) := by decide +kernel
theorem dX9_hours_1 : decode cX9_hours 1 = .ok (.invokevirtual 205, 3) := by decide +kernel
theorem dX9_hours_4 : decode cX9_hours 4 = .ok (.ireturn, 1) := by decide +kernel
theorem dX9_isPlace_0 : decode cX9_isPlace 0 = .ok (.iload_n 0, 1) := by decide +kernel
theorem dX9_isPlace_1 : decode cX9_isPlace 1 = .ok (.iconst 0, 1) := by decide +kernel
theorem dX9_isPlace_2 : decode cX9_isPlace 2 = .ok (.bipush 7, 2) := by decide +kernel
theorem dX9_isPlace_4 : decode cX9_isPlace 4 = .ok (.invokestatic 114, 3) := by decide +kernel
theorem dX9_isPlace_7 : decode cX9_isPlace 7 = .ok (.ireturn, 1) := by decide +kernel
theorem dX9_judged_0 : decode cX9_judged 0 = .ok (.aload_n 0, 1) := by decide +kernel
theorem dX9_judged_1 : decode cX9_judged 1 = .ok (.invokevirtual 208, 3) := by decide +kernel
theorem dX9_judged_4 : decode cX9_judged 4 = .ok (.ireturn, 1) := by decide +kernel
theorem dX9_keep_0 : decode cX9_keep 0 = .ok (.aload_n 0, 1) := by decide +kernel
theorem dX9_keep_1 : decode cX9_keep 1 = .ok (.getfield 106, 3) := by decide +kernel
theorem dX9_keep_4 : decode cX9_keep 4 = .ok (.bipush 40, 2) := by decide +kernel
theorem dX9_keep_6 : decode cX9_keep 6 = .ok (.iload_n 1, 1) := by decide +kernel
theorem dX9_keep_7 : decode cX9_keep 7 = .ok (.imul, 1) := by decide +kernel
theorem dX9_keep_8 : decode cX9_keep 8 = .ok (.iload_n 2, 1) := by decide +kernel
theorem dX9_keep_9 : decode cX9_keep 9 = .ok (.iadd, 1) := by decide +kernel
theorem dX9_keep_10 : decode cX9_keep 10 = .ok (.aload_n 0, 1) := by decide +kernel
theorem dX9_keep_11 : decode cX9_keep 11 = .ok (.getfield 100, 3) := by decide +kernel
theorem dX9_keep_14 : decode cX9_keep 14 = .ok (.iload_n 1, 1) := by decide +kernel
theorem dX9_keep_15 : decode cX9_keep 15 = .ok (.iaload, 1) := by decide +kernel
theorem dX9_keep_16 : decode cX9_keep 16 = .ok (.ifCond .ne 8, 3) := by decide +kernel
theorem dX9_keep_19 : decode cX9_keep 19 = .ok (.iload_n 3, 1) := by decide +kernel
theorem dX9_keep_20 : decode cX9_keep 20 = .ok (.i2b, 1) := by decide +kernel
theorem dX9_keep_21 : decode cX9_keep 21 = .ok (.goto 19, 3) := by decide +kernel
theorem dX9_keep_24 : decode cX9_keep 24 = .ok (.aload_n 0, 1) := by decide +kernel
theorem dX9_keep_25 : decode cX9_keep 25 = .ok (.getfield 100, 3) := by decide +kernel
theorem dX9_keep_28 : decode cX9_keep 28 = .ok (.iload_n 1, 1) := by decide +kernel
theorem dX9_keep_29 : decode cX9_keep 29 = .ok (.iaload, 1) := by decide +kernel
theorem dX9_keep_30 : decode cX9_keep 30 = .ok (.iconst 1, 1) := by decide +kernel
theorem dX9_keep_31 : decode cX9_keep 31 = .ok (.if_icmp .ne 8, 3) := by decide +kernel
theorem dX9_keep_34 : decode cX9_keep 34 = .ok (.iload_n 3, 1) := by decide +kernel
theorem dX9_keep_35 : decode cX9_keep 35 = .ok (.i2s, 1) := by decide +kernel
theorem dX9_keep_36 : decode cX9_keep 36 = .ok (.goto 4, 3) := by decide +kernel
theorem dX9_keep_39 : decode cX9_keep 39 = .ok (.iload_n 3, 1) := by decide +kernel
