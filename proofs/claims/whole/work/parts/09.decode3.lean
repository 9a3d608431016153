theorem dX9_keep_40 : decode cX9_keep 40 = .ok (.iastore, 1) := by decide +kernel
theorem dX9_keep_41 : decode cX9_keep 41 = .ok (.return_, 1) := by decide +kernel
theorem dX9_load_0 : decode cX9_load 0 = .ok (.iload_n 1, 1) := by decide +kernel
theorem dX9_load_1 : decode cX9_load 1 = .ok (.iconst 0, 1) := by decide +kernel
theorem dX9_load_2 : decode cX9_load 2 = .ok (.iconst 2, 1) := by decide +kernel
theorem dX9_load_3 : decode cX9_load 3 = .ok (.invokestatic 114, 3) := by decide +kernel
theorem dX9_load_6 : decode cX9_load 6 = .ok (.ifCond .eq 21, 3) := by decide +kernel
theorem dX9_load_9 : decode cX9_load 9 = .ok (.iload_n 2, 1) := by decide +kernel
theorem dX9_load_10 : decode cX9_load 10 = .ok (.iconst 0, 1) := by decide +kernel
theorem dX9_load_11 : decode cX9_load 11 = .ok (.iconst 1, 1) := by decide +kernel
theorem dX9_load_12 : decode cX9_load 12 = .ok (.invokestatic 114, 3) := by decide +kernel
theorem dX9_load_15 : decode cX9_load 15 = .ok (.ifCond .eq 12, 3) := by decide +kernel
theorem dX9_load_18 : decode cX9_load 18 = .ok (.aload_n 0, 1) := by decide +kernel
theorem dX9_load_19 : decode cX9_load 19 = .ok (.iload_n 1, 1) := by decide +kernel
theorem dX9_load_20 : decode cX9_load 20 = .ok (.iload_n 2, 1) := by decide +kernel
theorem dX9_load_21 : decode cX9_load 21 = .ok (.invokevirtual 253, 3) := by decide +kernel
theorem dX9_load_24 : decode cX9_load 24 = .ok (.goto 8, 3) := by decide +kernel
theorem dX9_load_27 : decode cX9_load 27 = .ok (.bipush (-2), 2) := by decide +kernel
theorem dX9_load_29 : decode cX9_load 29 = .ok (.invokestatic 211, 3) := by decide +kernel
theorem dX9_load_32 : decode cX9_load 32 = .ok (.lreturn, 1) := by decide +kernel
theorem dX9_loaded_0 : decode cX9_loaded 0 = .ok (.iload_n 1, 1) := by decide +kernel
theorem dX9_loaded_1 : decode cX9_loaded 1 = .ok (.iconst (-1), 1) := by decide +kernel
theorem dX9_loaded_2 : decode cX9_loaded 2 = .ok (.if_icmp .eq 10, 3) := by decide +kernel
theorem dX9_loaded_5 : decode cX9_loaded 5 = .ok (.iload_n 1, 1) := by decide +kernel
theorem dX9_loaded_6 : decode cX9_loaded 6 = .ok (.invokestatic 118, 3) := by decide +kernel
theorem dX9_loaded_9 : decode cX9_loaded 9 = .ok (.ifCond .eq 11, 3) := by decide +kernel
theorem dX9_loaded_12 : decode cX9_loaded 12 = .ok (.aload_n 0, 1) := by decide +kernel
theorem dX9_loaded_13 : decode cX9_loaded 13 = .ok (.iload_n 1, 1) := by decide +kernel
theorem dX9_loaded_14 : decode cX9_loaded 14 = .ok (.invokevirtual 247, 3) := by decide +kernel
theorem dX9_loaded_17 : decode cX9_loaded 17 = .ok (.goto 5, 3) := by decide +kernel
theorem dX9_loaded_20 : decode cX9_loaded 20 = .ok (.bipush (-2), 2) := by decide +kernel
theorem dX9_loaded_22 : decode cX9_loaded 22 = .ok (.ireturn, 1) := by decide +kernel
theorem dX9_lose_0 : decode cX9_lose 0 = .ok (.iload_n 1, 1) := by decide +kernel
theorem dX9_lose_1 : decode cX9_lose 1 = .ok (.invokestatic 165, 3) := by decide +kernel
theorem dX9_lose_4 : decode cX9_lose 4 = .ok (.ifCond .ne 6, 3) := by decide +kernel
theorem dX9_lose_7 : decode cX9_lose 7 = .ok (.bipush (-2), 2) := by decide +kernel
theorem dX9_lose_9 : decode cX9_lose 9 = .ok (.ireturn, 1) := by decide +kernel
theorem dX9_lose_10 : decode cX9_lose 10 = .ok (.aload_n 0, 1) := by decide +kernel
theorem dX9_lose_11 : decode cX9_lose 11 = .ok (.getfield 96, 3) := by decide +kernel
theorem dX9_lose_14 : decode cX9_lose 14 = .ok (.iload_n 1, 1) := by decide +kernel
theorem dX9_lose_15 : decode cX9_lose 15 = .ok (.baload, 1) := by decide +kernel
theorem dX9_lose_16 : decode cX9_lose 16 = .ok (.ifCond .ne 9, 3) := by decide +kernel
theorem dX9_lose_19 : decode cX9_lose 19 = .ok (.aload_n 0, 1) := by decide +kernel
theorem dX9_lose_20 : decode cX9_lose 20 = .ok (.iconst 1, 1) := by decide +kernel
theorem dX9_lose_21 : decode cX9_lose 21 = .ok (.invokevirtual 171, 3) := by decide +kernel
theorem dX9_lose_24 : decode cX9_lose 24 = .ok (.ireturn, 1) := by decide +kernel
theorem dX9_lose_25 : decode cX9_lose 25 = .ok (.aload_n 0, 1) := by decide +kernel
theorem dX9_lose_26 : decode cX9_lose 26 = .ok (.getfield 96, 3) := by decide +kernel
theorem dX9_lose_29 : decode cX9_lose 29 = .ok (.iload_n 1, 1) := by decide +kernel
theorem dX9_lose_30 : decode cX9_lose 30 = .ok (.iconst 0, 1) := by decide +kernel
theorem dX9_lose_31 : decode cX9_lose 31 = .ok (.bastore, 1) := by decide +kernel
theorem dX9_lose_32 : decode cX9_lose 32 = .ok (.aload_n 0, 1) := by decide +kernel
theorem dX9_lose_33 : decode cX9_lose 33 = .ok (.getfield 103, 3) := by decide +kernel
theorem dX9_lose_36 : decode cX9_lose 36 = .ok (.iload_n 1, 1) := by decide +kernel
theorem dX9_lose_37 : decode cX9_lose 37 = .ok (.iaload, 1) := by decide +kernel
theorem dX9_lose_38 : decode cX9_lose 38 = .ok (.ireturn, 1) := by decide +kernel
theorem dX9_onward_0 : decode cX9_onward 0 = .ok (.iload_n 1, 1) := by decide +kernel
theorem dX9_onward_1 : decode cX9_onward 1 = .ok (.invokestatic 126, 3) := by decide +kernel
theorem dX9_onward_4 : decode cX9_onward 4 = .ok (.ifCond .eq 14, 3) := by decide +kernel
theorem dX9_onward_7 : decode cX9_onward 7 = .ok (.iload_n 2, 1) := by decide +kernel
theorem dX9_onward_8 : decode cX9_onward 8 = .ok (.iconst 0, 1) := by decide +kernel
theorem dX9_onward_9 : decode cX9_onward 9 = .ok (.sipush 200, 3) := by decide +kernel
theorem dX9_onward_12 : decode cX9_onward 12 = .ok (.invokestatic 114, 3) := by decide +kernel
theorem dX9_onward_15 : decode cX9_onward 15 = .ok (.ifCond .ne 6, 3) := by decide +kernel
theorem dX9_onward_18 : decode cX9_onward 18 = .ok (.bipush (-2), 2) := by decide +kernel
theorem dX9_onward_20 : decode cX9_onward 20 = .ok (.ireturn, 1) := by decide +kernel
theorem dX9_onward_21 : decode cX9_onward 21 = .ok (.aload_n 0, 1) := by decide +kernel
theorem dX9_onward_22 : decode cX9_onward 22 = .ok (.invokevirtual 274, 3) := by decide +kernel
theorem dX9_onward_25 : decode cX9_onward 25 = .ok (.ifCond .ne 6, 3) := by decide +kernel
theorem dX9_onward_28 : decode cX9_onward 28 = .ok (.bipush (-4), 2) := by decide +kernel
theorem dX9_onward_30 : decode cX9_onward 30 = .ok (.ireturn, 1) := by decide +kernel
theorem dX9_onward_31 : decode cX9_onward 31 = .ok (.aload_n 0, 1) := by decide +kernel
theorem dX9_onward_32 : decode cX9_onward 32 = .ok (.invokevirtual 129, 3) := by decide +kernel
theorem dX9_onward_35 : decode cX9_onward 35 = .ok (.iconst (-1), 1) := by decide +kernel
theorem dX9_onward_36 : decode cX9_onward 36 = .ok (.istore_n 3, 1) := by decide +kernel
theorem dX9_onward_37 : decode cX9_onward 37 = .ok (.ldc2_w 226, 3) := by decide +kernel
theorem dX9_onward_40 : decode cX9_onward 40 = .ok (.lstore 4, 2) := by decide +kernel
theorem dX9_onward_42 : decode cX9_onward 42 = .ok (.iconst 0, 1) := by decide +kernel
theorem dX9_onward_43 : decode cX9_onward 43 = .ok (.istore 6, 2) := by decide +kernel
theorem dX9_onward_45 : decode cX9_onward 45 = .ok (.iload 6, 2) := by decide +kernel
theorem dX9_onward_47 : decode cX9_onward 47 = .ok (.aload_n 0, 1) := by decide +kernel
theorem dX9_onward_48 : decode cX9_onward 48 = .ok (.getfield 256, 3) := by decide +kernel
theorem dX9_onward_51 : decode cX9_onward 51 = .ok (.if_icmp .gt 191, 3) := by decide +kernel
theorem dX9_onward_54 : decode cX9_onward 54 = .ok (.iconst 0, 1) := by decide +kernel
theorem dX9_onward_55 : decode cX9_onward 55 = .ok (.istore 7, 2) := by decide +kernel
theorem dX9_onward_57 : decode cX9_onward 57 = .ok (.iload 7, 2) := by decide +kernel
theorem dX9_onward_59 : decode cX9_onward 59 = .ok (.iload 6, 2) := by decide +kernel
theorem dX9_onward_61 : decode cX9_onward 61 = .ok (.invokestatic 265, 3) := by decide +kernel
theorem dX9_onward_64 : decode cX9_onward 64 = .ok (.if_icmp .ge 172, 3) := by decide +kernel
theorem dX9_onward_67 : decode cX9_onward 67 = .ok (.aload_n 0, 1) := by decide +kernel
theorem dX9_onward_68 : decode cX9_onward 68 = .ok (.iload 6, 2) := by decide +kernel
theorem dX9_onward_70 : decode cX9_onward 70 = .ok (.iload 7, 2) := by decide +kernel
theorem dX9_onward_72 : decode cX9_onward 72 = .ok (.invokevirtual 268, 3) := by decide +kernel
theorem dX9_onward_75 : decode cX9_onward 75 = .ok (.iconst (-1), 1) := by decide +kernel
theorem dX9_onward_76 : decode cX9_onward 76 = .ok (.if_icmp .eq 7, 3) := by decide +kernel
theorem dX9_onward_79 : decode cX9_onward 79 = .ok (.iconst 1, 1) := by decide +kernel
theorem dX9_onward_80 : decode cX9_onward 80 = .ok (.goto 4, 3) := by decide +kernel
theorem dX9_onward_83 : decode cX9_onward 83 = .ok (.iconst 0, 1) := by decide +kernel
theorem dX9_onward_84 : decode cX9_onward 84 = .ok (.istore 8, 2) := by decide +kernel
theorem dX9_onward_86 : decode cX9_onward 86 = .ok (.iconst 0, 1) := by decide +kernel
theorem dX9_onward_87 : decode cX9_onward 87 = .ok (.istore 9, 2) := by decide +kernel
theorem dX9_onward_89 : decode cX9_onward 89 = .ok (.iload 9, 2) := by decide +kernel
theorem dX9_onward_91 : decode cX9_onward 91 = .ok (.iload 6, 2) := by decide +kernel
theorem dX9_onward_93 : decode cX9_onward 93 = .ok (.if_icmp .ge 32, 3) := by decide +kernel
theorem dX9_onward_96 : decode cX9_onward 96 = .ok (.iload 8, 2) := by decide +kernel
theorem dX9_onward_98 : decode cX9_onward 98 = .ok (.ifCond .eq 27, 3) := by decide +kernel
theorem dX9_onward_101 : decode cX9_onward 101 = .ok (.aload_n 0, 1) := by decide +kernel
theorem dX9_onward_102 : decode cX9_onward 102 = .ok (.getfield 62, 3) := by decide +kernel
theorem dX9_onward_105 : decode cX9_onward 105 = .ok (.iload 9, 2) := by decide +kernel
theorem dX9_onward_107 : decode cX9_onward 107 = .ok (.iaload, 1) := by decide +kernel
theorem dX9_onward_108 : decode cX9_onward 108 = .ok (.iload_n 1, 1) := by decide +kernel
theorem dX9_onward_109 : decode cX9_onward 109 = .ok (.if_icmp .eq 7, 3) := by decide +kernel
theorem dX9_onward_112 : decode cX9_onward 112 = .ok (.iconst 1, 1) := by decide +kernel
theorem dX9_onward_113 : decode cX9_onward 113 = .ok (.goto 4, 3) := by decide +kernel
theorem dX9_onward_116 : decode cX9_onward 116 = .ok (.iconst 0, 1) := by decide +kernel
theorem dX9_onward_117 : decode cX9_onward 117 = .ok (.istore 8, 2) := by decide +kernel
theorem dX9_onward_119 : decode cX9_onward 119 = .ok (.iinc 9 1, 3) := by decide +kernel
theorem dX9_onward_122 : decode cX9_onward 122 = .ok (.goto (-33), 3) := by decide +kernel
theorem dX9_onward_125 : decode cX9_onward 125 = .ok (.iload 8, 2) := by decide +kernel
theorem dX9_onward_127 : decode cX9_onward 127 = .ok (.ifCond .eq 103, 3) := by decide +kernel
theorem dX9_onward_130 : decode cX9_onward 130 = .ok (.iload_n 2, 1) := by decide +kernel
theorem dX9_onward_131 : decode cX9_onward 131 = .ok (.aload_n 0, 1) := by decide +kernel
theorem dX9_onward_132 : decode cX9_onward 132 = .ok (.iload_n 1, 1) := by decide +kernel
theorem dX9_onward_133 : decode cX9_onward 133 = .ok (.invokevirtual 202, 3) := by decide +kernel
theorem dX9_onward_136 : decode cX9_onward 136 = .ok (.iadd, 1) := by decide +kernel
theorem dX9_onward_137 : decode cX9_onward 137 = .ok (.aload_n 0, 1) := by decide +kernel
theorem dX9_onward_138 : decode cX9_onward 138 = .ok (.getfield 28, 3) := by decide +kernel
theorem dX9_onward_141 : decode cX9_onward 141 = .ok (.if_icmp .gt 89, 3) := by decide +kernel
theorem dX9_onward_144 : decode cX9_onward 144 = .ok (.aload_n 0, 1) := by decide +kernel
theorem dX9_onward_145 : decode cX9_onward 145 = .ok (.invokevirtual 187, 3) := by decide +kernel
theorem dX9_onward_148 : decode cX9_onward 148 = .ok (.lconst 0, 1) := by decide +kernel
theorem dX9_onward_149 : decode cX9_onward 149 = .ok (.lstore 9, 2) := by decide +kernel
theorem dX9_onward_151 : decode cX9_onward 151 = .ok (.iconst 0, 1) := by decide +kernel
theorem dX9_onward_152 : decode cX9_onward 152 = .ok (.istore 11, 2) := by decide +kernel
theorem dX9_onward_154 : decode cX9_onward 154 = .ok (.iload 11, 2) := by decide +kernel
theorem dX9_onward_156 : decode cX9_onward 156 = .ok (.bipush 6, 2) := by decide +kernel
theorem dX9_onward_158 : decode cX9_onward 158 = .ok (.if_icmp .ge 32, 3) := by decide +kernel
theorem dX9_onward_161 : decode cX9_onward 161 = .ok (.lload 9, 2) := by decide +kernel
theorem dX9_onward_163 : decode cX9_onward 163 = .ok (.aload_n 0, 1) := by decide +kernel
theorem dX9_onward_164 : decode cX9_onward 164 = .ok (.getfield 65, 3) := by decide +kernel
theorem dX9_onward_167 : decode cX9_onward 167 = .ok (.iload 11, 2) := by decide +kernel
theorem dX9_onward_169 : decode cX9_onward 169 = .ok (.iconst 0, 1) := by decide +kernel
theorem dX9_onward_170 : decode cX9_onward 170 = .ok (.aload_n 0, 1) := by decide +kernel
theorem dX9_onward_171 : decode cX9_onward 171 = .ok (.getfield 59, 3) := by decide +kernel
theorem dX9_onward_174 : decode cX9_onward 174 = .ok (.iload 11, 2) := by decide +kernel
theorem dX9_onward_176 : decode cX9_onward 176 = .ok (.iaload, 1) := by decide +kernel
theorem dX9_onward_177 : decode cX9_onward 177 = .ok (.invokestatic 190, 3) := by decide +kernel
theorem dX9_onward_180 : decode cX9_onward 180 = .ok (.laload, 1) := by decide +kernel
theorem dX9_onward_181 : decode cX9_onward 181 = .ok (.ladd, 1) := by decide +kernel
theorem dX9_onward_182 : decode cX9_onward 182 = .ok (.lstore 9, 2) := by decide +kernel
theorem dX9_onward_184 : decode cX9_onward 184 = .ok (.iinc 11 1, 3) := by decide +kernel
theorem dX9_onward_187 : decode cX9_onward 187 = .ok (.goto (-33), 3) := by decide +kernel
theorem dX9_onward_190 : decode cX9_onward 190 = .ok (.lload 9, 2) := by decide +kernel
theorem dX9_onward_192 : decode cX9_onward 192 = .ok (.iconst 5, 1) := by decide +kernel
theorem dX9_onward_193 : decode cX9_onward 193 = .ok (.iload 6, 2) := by decide +kernel
theorem dX9_onward_195 : decode cX9_onward 195 = .ok (.isub, 1) := by decide +kernel
theorem dX9_onward_196 : decode cX9_onward 196 = .ok (.invokestatic 193, 3) := by decide +kernel
theorem dX9_onward_199 : decode cX9_onward 199 = .ok (.lmul, 1) := by decide +kernel
theorem dX9_onward_200 : decode cX9_onward 200 = .ok (.lstore 9, 2) := by decide +kernel
theorem dX9_onward_202 : decode cX9_onward 202 = .ok (.lload 9, 2) := by decide +kernel
theorem dX9_onward_204 : decode cX9_onward 204 = .ok (.lload 4, 2) := by decide +kernel
theorem dX9_onward_206 : decode cX9_onward 206 = .ok (.lcmp, 1) := by decide +kernel
theorem dX9_onward_207 : decode cX9_onward 207 = .ok (.ifCond .le 23, 3) := by decide +kernel
theorem dX9_onward_210 : decode cX9_onward 210 = .ok (.lload 9, 2) := by decide +kernel
theorem dX9_onward_212 : decode cX9_onward 212 = .ok (.lstore 4, 2) := by decide +kernel
theorem dX9_onward_214 : decode cX9_onward 214 = .ok (.iload 6, 2) := by decide +kernel
theorem dX9_onward_216 : decode cX9_onward 216 = .ok (.ifCond .ne 7, 3) := by decide +kernel
theorem dX9_onward_219 : decode cX9_onward 219 = .ok (.iconst (-1), 1) := by decide +kernel
theorem dX9_onward_220 : decode cX9_onward 220 = .ok (.goto 9, 3) := by decide +kernel
theorem dX9_onward_223 : decode cX9_onward 223 = .ok (.aload_n 0, 1) := by decide +kernel
theorem dX9_onward_224 : decode cX9_onward 224 = .ok (.getfield 62, 3) := by decide +kernel
theorem dX9_onward_227 : decode cX9_onward 227 = .ok (.iconst 0, 1) := by decide +kernel
theorem dX9_onward_228 : decode cX9_onward 228 = .ok (.iaload, 1) := by decide +kernel
theorem dX9_onward_229 : decode cX9_onward 229 = .ok (.istore_n 3, 1) := by decide +kernel
theorem dX9_onward_230 : decode cX9_onward 230 = .ok (.iinc 7 1, 3) := by decide +kernel
theorem dX9_onward_233 : decode cX9_onward 233 = .ok (.goto (-176), 3) := by decide +kernel
theorem dX9_onward_236 : decode cX9_onward 236 = .ok (.iinc 6 1, 3) := by decide +kernel
theorem dX9_onward_239 : decode cX9_onward 239 = .ok (.goto (-194), 3) := by decide +kernel
theorem dX9_onward_242 : decode cX9_onward 242 = .ok (.iload_n 3, 1) := by decide +kernel
theorem dX9_onward_243 : decode cX9_onward 243 = .ok (.ireturn, 1) := by decide +kernel
theorem dX9_pack_0 : decode cX9_pack 0 = .ok (.iload_n 1, 1) := by decide +kernel
theorem dX9_pack_1 : decode cX9_pack 1 = .ok (.invokestatic 165, 3) := by decide +kernel
theorem dX9_pack_4 : decode cX9_pack 4 = .ok (.ifCond .ne 6, 3) := by decide +kernel
theorem dX9_pack_7 : decode cX9_pack 7 = .ok (.bipush (-2), 2) := by decide +kernel
theorem dX9_pack_9 : decode cX9_pack 9 = .ok (.ireturn, 1) := by decide +kernel
theorem dX9_pack_10 : decode cX9_pack 10 = .ok (.aload_n 0, 1) := by decide +kernel
theorem dX9_pack_11 : decode cX9_pack 11 = .ok (.getfield 96, 3) := by decide +kernel
theorem dX9_pack_14 : decode cX9_pack 14 = .ok (.iload_n 1, 1) := by decide +kernel
theorem dX9_pack_15 : decode cX9_pack 15 = .ok (.baload, 1) := by decide +kernel
theorem dX9_pack_16 : decode cX9_pack 16 = .ok (.ifCond .ne 9, 3) := by decide +kernel
theorem dX9_pack_19 : decode cX9_pack 19 = .ok (.aload_n 0, 1) := by decide +kernel
theorem dX9_pack_20 : decode cX9_pack 20 = .ok (.iconst 1, 1) := by decide +kernel
theorem dX9_pack_21 : decode cX9_pack 21 = .ok (.invokevirtual 171, 3) := by decide +kernel
theorem dX9_pack_24 : decode cX9_pack 24 = .ok (.ireturn, 1) := by decide +kernel
theorem dX9_pack_25 : decode cX9_pack 25 = .ok (.aload_n 0, 1) := by decide +kernel
theorem dX9_pack_26 : decode cX9_pack 26 = .ok (.getfield 103, 3) := by decide +kernel
theorem dX9_pack_29 : decode cX9_pack 29 = .ok (.iload_n 1, 1) := by decide +kernel
theorem dX9_pack_30 : decode cX9_pack 30 = .ok (.iaload, 1) := by decide +kernel
theorem dX9_pack_31 : decode cX9_pack 31 = .ok (.bipush 6, 2) := by decide +kernel
theorem dX9_pack_33 : decode cX9_pack 33 = .ok (.if_icmp .ge 9, 3) := by decide +kernel
theorem dX9_pack_36 : decode cX9_pack 36 = .ok (.aload_n 0, 1) := by decide +kernel
theorem dX9_pack_37 : decode cX9_pack 37 = .ok (.iconst 2, 1) := by decide +kernel
theorem dX9_pack_38 : decode cX9_pack 38 = .ok (.invokevirtual 171, 3) := by decide +kernel
theorem dX9_pack_41 : decode cX9_pack 41 = .ok (.ireturn, 1) := by decide +kernel
theorem dX9_pack_42 : decode cX9_pack 42 = .ok (.iconst 0, 1) := by decide +kernel
theorem dX9_pack_43 : decode cX9_pack 43 = .ok (.istore_n 2, 1) := by decide +kernel
theorem dX9_pack_44 : decode cX9_pack 44 = .ok (.iload_n 2, 1) := by decide +kernel
theorem dX9_pack_45 : decode cX9_pack 45 = .ok (.bipush 6, 2) := by decide +kernel
theorem dX9_pack_47 : decode cX9_pack 47 = .ok (.if_icmp .ge 31, 3) := by decide +kernel
theorem dX9_pack_50 : decode cX9_pack 50 = .ok (.aload_n 0, 1) := by decide +kernel
theorem dX9_pack_51 : decode cX9_pack 51 = .ok (.getfield 106, 3) := by decide +kernel
theorem dX9_pack_54 : decode cX9_pack 54 = .ok (.bipush 40, 2) := by decide +kernel
theorem dX9_pack_56 : decode cX9_pack 56 = .ok (.iload_n 1, 1) := by decide +kernel
theorem dX9_pack_57 : decode cX9_pack 57 = .ok (.imul, 1) := by decide +kernel
theorem dX9_pack_58 : decode cX9_pack 58 = .ok (.iload_n 2, 1) := by decide +kernel
theorem dX9_pack_59 : decode cX9_pack 59 = .ok (.iadd, 1) := by decide +kernel
theorem dX9_pack_60 : decode cX9_pack 60 = .ok (.iaload, 1) := by decide +kernel
theorem dX9_pack_61 : decode cX9_pack 61 = .ok (.iconst 0, 1) := by decide +kernel
theorem dX9_pack_62 : decode cX9_pack 62 = .ok (.iconst 4, 1) := by decide +kernel
theorem dX9_pack_63 : decode cX9_pack 63 = .ok (.invokestatic 114, 3) := by decide +kernel
theorem dX9_pack_66 : decode cX9_pack 66 = .ok (.ifCond .ne 6, 3) := by decide +kernel
theorem dX9_pack_69 : decode cX9_pack 69 = .ok (.bipush (-3), 2) := by decide +kernel
theorem dX9_pack_71 : decode cX9_pack 71 = .ok (.ireturn, 1) := by decide +kernel
theorem dX9_pack_72 : decode cX9_pack 72 = .ok (.iinc 2 1, 3) := by decide +kernel
theorem dX9_pack_75 : decode cX9_pack 75 = .ok (.goto (-31), 3) := by decide +kernel
theorem dX9_pack_78 : decode cX9_pack 78 = .ok (.iconst 0, 1) := by decide +kernel
theorem dX9_pack_79 : decode cX9_pack 79 = .ok (.istore_n 2, 1) := by decide +kernel
theorem dX9_pack_80 : decode cX9_pack 80 = .ok (.iload_n 2, 1) := by decide +kernel
theorem dX9_pack_81 : decode cX9_pack 81 = .ok (.bipush 6, 2) := by decide +kernel
theorem dX9_pack_83 : decode cX9_pack 83 = .ok (.if_icmp .ge 26, 3) := by decide +kernel
theorem dX9_pack_86 : decode cX9_pack 86 = .ok (.aload_n 0, 1) := by decide +kernel
theorem dX9_pack_87 : decode cX9_pack 87 = .ok (.getfield 59, 3) := by decide +kernel
theorem dX9_pack_90 : decode cX9_pack 90 = .ok (.iload_n 2, 1) := by decide +kernel
theorem dX9_pack_91 : decode cX9_pack 91 = .ok (.aload_n 0, 1) := by decide +kernel
theorem dX9_pack_92 : decode cX9_pack 92 = .ok (.getfield 106, 3) := by decide +kernel
theorem dX9_pack_95 : decode cX9_pack 95 = .ok (.bipush 40, 2) := by decide +kernel
theorem dX9_pack_97 : decode cX9_pack 97 = .ok (.iload_n 1, 1) := by decide +kernel
theorem dX9_pack_98 : decode cX9_pack 98 = .ok (.imul, 1) := by decide +kernel
theorem dX9_pack_99 : decode cX9_pack 99 = .ok (.iload_n 2, 1) := by decide +kernel
theorem dX9_pack_100 : decode cX9_pack 100 = .ok (.iadd, 1) := by decide +kernel
theorem dX9_pack_101 : decode cX9_pack 101 = .ok (.iaload, 1) := by decide +kernel
theorem dX9_pack_102 : decode cX9_pack 102 = .ok (.iastore, 1) := by decide +kernel
theorem dX9_pack_103 : decode cX9_pack 103 = .ok (.iinc 2 1, 3) := by decide +kernel
theorem dX9_pack_106 : decode cX9_pack 106 = .ok (.goto (-26), 3) := by decide +kernel
theorem dX9_pack_109 : decode cX9_pack 109 = .ok (.aload_n 0, 1) := by decide +kernel
theorem dX9_pack_110 : decode cX9_pack 110 = .ok (.invokevirtual 181, 3) := by decide +kernel
theorem dX9_pack_113 : decode cX9_pack 113 = .ok (.ireturn, 1) := by decide +kernel
theorem dX9_put_0 : decode cX9_put 0 = .ok (.iload_n 1, 1) := by decide +kernel
theorem dX9_put_1 : decode cX9_put 1 = .ok (.invokestatic 165, 3) := by decide +kernel
theorem dX9_put_4 : decode cX9_put 4 = .ok (.ifCond .eq 12, 3) := by decide +kernel
theorem dX9_put_7 : decode cX9_put 7 = .ok (.iload_n 2, 1) := by decide +kernel
theorem dX9_put_8 : decode cX9_put 8 = .ok (.iconst 0, 1) := by decide +kernel
theorem dX9_put_9 : decode cX9_put 9 = .ok (.iconst 2, 1) := by decide +kernel
theorem dX9_put_10 : decode cX9_put 10 = .ok (.invokestatic 114, 3) := by decide +kernel
theorem dX9_put_13 : decode cX9_put 13 = .ok (.ifCond .ne 6, 3) := by decide +kernel
theorem dX9_put_16 : decode cX9_put 16 = .ok (.bipush (-2), 2) := by decide +kernel
theorem dX9_put_18 : decode cX9_put 18 = .ok (.ireturn, 1) := by decide +kernel
theorem dX9_put_19 : decode cX9_put 19 = .ok (.aload_n 0, 1) := by decide +kernel
theorem dX9_put_20 : decode cX9_put 20 = .ok (.iload_n 1, 1) := by decide +kernel
theorem dX9_put_21 : decode cX9_put 21 = .ok (.iload_n 2, 1) := by decide +kernel
theorem dX9_put_22 : decode cX9_put 22 = .ok (.iload_n 3, 1) := by decide +kernel
theorem dX9_put_23 : decode cX9_put 23 = .ok (.invokevirtual 302, 3) := by decide +kernel
theorem dX9_put_26 : decode cX9_put 26 = .ok (.istore 5, 2) := by decide +kernel
theorem dX9_put_28 : decode cX9_put 28 = .ok (.iload 5, 2) := by decide +kernel
theorem dX9_put_30 : decode cX9_put 30 = .ok (.ifCond .le 10, 3) := by decide +kernel
theorem dX9_put_33 : decode cX9_put 33 = .ok (.aload_n 0, 1) := by decide +kernel
theorem dX9_put_34 : decode cX9_put 34 = .ok (.iload 5, 2) := by decide +kernel
theorem dX9_put_36 : decode cX9_put 36 = .ok (.invokevirtual 171, 3) := by decide +kernel
theorem dX9_put_39 : decode cX9_put 39 = .ok (.ireturn, 1) := by decide +kernel
theorem dX9_put_40 : decode cX9_put 40 = .ok (.aload_n 0, 1) := by decide +kernel
theorem dX9_put_41 : decode cX9_put 41 = .ok (.iload_n 1, 1) := by decide +kernel
theorem dX9_put_42 : decode cX9_put 42 = .ok (.iload_n 3, 1) := by decide +kernel
theorem dX9_put_43 : decode cX9_put 43 = .ok (.iload 4, 2) := by decide +kernel
theorem dX9_put_45 : decode cX9_put 45 = .ok (.invokevirtual 305, 3) := by decide +kernel
theorem dX9_put_48 : decode cX9_put 48 = .ok (.iconst 1, 1) := by decide +kernel
theorem dX9_put_49 : decode cX9_put 49 = .ok (.ireturn, 1) := by decide +kernel
theorem dX9_read_0 : decode cX9_read 0 = .ok (.iload_n 1, 1) := by decide +kernel
theorem dX9_read_1 : decode cX9_read 1 = .ok (.invokestatic 165, 3) := by decide +kernel
theorem dX9_read_4 : decode cX9_read 4 = .ok (.ifCond .eq 10, 3) := by decide +kernel
theorem dX9_read_7 : decode cX9_read 7 = .ok (.iload_n 2, 1) := by decide +kernel
theorem dX9_read_8 : decode cX9_read 8 = .ok (.invokestatic 168, 3) := by decide +kernel
theorem dX9_read_11 : decode cX9_read 11 = .ok (.ifCond .ne 6, 3) := by decide +kernel
theorem dX9_read_14 : decode cX9_read 14 = .ok (.bipush (-2), 2) := by decide +kernel
theorem dX9_read_16 : decode cX9_read 16 = .ok (.ireturn, 1) := by decide +kernel
theorem dX9_read_17 : decode cX9_read 17 = .ok (.aload_n 0, 1) := by decide +kernel
theorem dX9_read_18 : decode cX9_read 18 = .ok (.getfield 96, 3) := by decide +kernel
theorem dX9_read_21 : decode cX9_read 21 = .ok (.iload_n 1, 1) := by decide +kernel
theorem dX9_read_22 : decode cX9_read 22 = .ok (.baload, 1) := by decide +kernel
theorem dX9_read_23 : decode cX9_read 23 = .ok (.ifCond .ne 9, 3) := by decide +kernel
theorem dX9_read_26 : decode cX9_read 26 = .ok (.aload_n 0, 1) := by decide +kernel
theorem dX9_read_27 : decode cX9_read 27 = .ok (.iconst 1, 1) := by decide +kernel
theorem dX9_read_28 : decode cX9_read 28 = .ok (.invokevirtual 171, 3) := by decide +kernel
theorem dX9_read_31 : decode cX9_read 31 = .ok (.ireturn, 1) := by decide +kernel
theorem dX9_read_32 : decode cX9_read 32 = .ok (.iconst 0, 1) := by decide +kernel
theorem dX9_read_33 : decode cX9_read 33 = .ok (.istore_n 3, 1) := by decide +kernel
theorem dX9_read_34 : decode cX9_read 34 = .ok (.iload_n 3, 1) := by decide +kernel
theorem dX9_read_35 : decode cX9_read 35 = .ok (.bipush 6, 2) := by decide +kernel
theorem dX9_read_37 : decode cX9_read 37 = .ok (.if_icmp .ge 137, 3) := by decide +kernel
theorem dX9_read_40 : decode cX9_read 40 = .ok (.iconst 3, 1) := by decide +kernel
theorem dX9_read_41 : decode cX9_read 41 = .ok (.iload_n 3, 1) := by decide +kernel
theorem dX9_read_42 : decode cX9_read 42 = .ok (.imul, 1) := by decide +kernel
theorem dX9_read_43 : decode cX9_read 43 = .ok (.iconst 2, 1) := by decide +kernel
theorem dX9_read_44 : decode cX9_read 44 = .ok (.iadd, 1) := by decide +kernel
theorem dX9_read_45 : decode cX9_read 45 = .ok (.aload_n 0, 1) := by decide +kernel
theorem dX9_read_46 : decode cX9_read 46 = .ok (.getfield 103, 3) := by decide +kernel
theorem dX9_read_49 : decode cX9_read 49 = .ok (.iload_n 1, 1) := by decide +kernel
theorem dX9_read_50 : decode cX9_read 50 = .ok (.iaload, 1) := by decide +kernel
theorem dX9_read_51 : decode cX9_read 51 = .ok (.if_icmp .ge 123, 3) := by decide +kernel
theorem dX9_read_54 : decode cX9_read 54 = .ok (.bipush 40, 2) := by decide +kernel
theorem dX9_read_56 : decode cX9_read 56 = .ok (.iload_n 1, 1) := by decide +kernel
theorem dX9_read_57 : decode cX9_read 57 = .ok (.imul, 1) := by decide +kernel
theorem dX9_read_58 : decode cX9_read 58 = .ok (.iconst 3, 1) := by decide +kernel
theorem dX9_read_59 : decode cX9_read 59 = .ok (.iload_n 3, 1) := by decide +kernel
theorem dX9_read_60 : decode cX9_read 60 = .ok (.imul, 1) := by decide +kernel
theorem dX9_read_61 : decode cX9_read 61 = .ok (.iadd, 1) := by decide +kernel
theorem dX9_read_62 : decode cX9_read 62 = .ok (.istore 4, 2) := by decide +kernel
theorem dX9_read_64 : decode cX9_read 64 = .ok (.aload_n 0, 1) := by decide +kernel
theorem dX9_read_65 : decode cX9_read 65 = .ok (.getfield 106, 3) := by decide +kernel
theorem dX9_read_68 : decode cX9_read 68 = .ok (.iload 4, 2) := by decide +kernel
theorem dX9_read_70 : decode cX9_read 70 = .ok (.iaload, 1) := by decide +kernel
theorem dX9_read_71 : decode cX9_read 71 = .ok (.iconst 0, 1) := by decide +kernel
theorem dX9_read_72 : decode cX9_read 72 = .ok (.bipush 16, 2) := by decide +kernel
theorem dX9_read_74 : decode cX9_read 74 = .ok (.invokestatic 114, 3) := by decide +kernel
theorem dX9_read_77 : decode cX9_read 77 = .ok (.ifCond .eq 51, 3) := by decide +kernel
theorem dX9_read_80 : decode cX9_read 80 = .ok (.aload_n 0, 1) := by decide +kernel
theorem dX9_read_81 : decode cX9_read 81 = .ok (.getfield 106, 3) := by decide +kernel
theorem dX9_read_84 : decode cX9_read 84 = .ok (.iload 4, 2) := by decide +kernel
theorem dX9_read_86 : decode cX9_read 86 = .ok (.iconst 1, 1) := by decide +kernel
theorem dX9_read_87 : decode cX9_read 87 = .ok (.iadd, 1) := by decide +kernel
theorem dX9_read_88 : decode cX9_read 88 = .ok (.iaload, 1) := by decide +kernel
theorem dX9_read_89 : decode cX9_read 89 = .ok (.iconst 0, 1) := by decide +kernel
theorem dX9_read_90 : decode cX9_read 90 = .ok (.aload_n 0, 1) := by decide +kernel
theorem dX9_read_91 : decode cX9_read 91 = .ok (.getfield 106, 3) := by decide +kernel
theorem dX9_read_94 : decode cX9_read 94 = .ok (.iload 4, 2) := by decide +kernel
theorem dX9_read_96 : decode cX9_read 96 = .ok (.iaload, 1) := by decide +kernel
theorem dX9_read_97 : decode cX9_read 97 = .ok (.invokestatic 114, 3) := by decide +kernel
theorem dX9_read_100 : decode cX9_read 100 = .ok (.ifCond .eq 28, 3) := by decide +kernel
theorem dX9_read_103 : decode cX9_read 103 = .ok (.aload_n 0, 1) := by decide +kernel
theorem dX9_read_104 : decode cX9_read 104 = .ok (.getfield 106, 3) := by decide +kernel
theorem dX9_read_107 : decode cX9_read 107 = .ok (.iload 4, 2) := by decide +kernel
theorem dX9_read_109 : decode cX9_read 109 = .ok (.iconst 2, 1) := by decide +kernel
theorem dX9_read_110 : decode cX9_read 110 = .ok (.iadd, 1) := by decide +kernel
theorem dX9_read_111 : decode cX9_read 111 = .ok (.iaload, 1) := by decide +kernel
theorem dX9_read_112 : decode cX9_read 112 = .ok (.iconst 0, 1) := by decide +kernel
theorem dX9_read_113 : decode cX9_read 113 = .ok (.aload_n 0, 1) := by decide +kernel
theorem dX9_read_114 : decode cX9_read 114 = .ok (.getfield 106, 3) := by decide +kernel
theorem dX9_read_117 : decode cX9_read 117 = .ok (.iload 4, 2) := by decide +kernel
theorem dX9_read_119 : decode cX9_read 119 = .ok (.iconst 1, 1) := by decide +kernel
theorem dX9_read_120 : decode cX9_read 120 = .ok (.iadd, 1) := by decide +kernel
theorem dX9_read_121 : decode cX9_read 121 = .ok (.iaload, 1) := by decide +kernel
theorem dX9_read_122 : decode cX9_read 122 = .ok (.invokestatic 114, 3) := by decide +kernel
theorem dX9_read_125 : decode cX9_read 125 = .ok (.ifCond .ne 5, 3) := by decide +kernel
theorem dX9_read_128 : decode cX9_read 128 = .ok (.iload_n 3, 1) := by decide +kernel
theorem dX9_read_129 : decode cX9_read 129 = .ok (.ireturn, 1) := by decide +kernel
theorem dX9_read_130 : decode cX9_read 130 = .ok (.iconst 0, 1) := by decide +kernel
theorem dX9_read_131 : decode cX9_read 131 = .ok (.istore 5, 2) := by decide +kernel
theorem dX9_read_133 : decode cX9_read 133 = .ok (.iload 5, 2) := by decide +kernel
theorem dX9_read_135 : decode cX9_read 135 = .ok (.iconst 3, 1) := by decide +kernel
theorem dX9_read_136 : decode cX9_read 136 = .ok (.if_icmp .ge 32, 3) := by decide +kernel
theorem dX9_read_139 : decode cX9_read 139 = .ok (.aload_n 0, 1) := by decide +kernel
theorem dX9_read_140 : decode cX9_read 140 = .ok (.getfield 38, 3) := by decide +kernel
theorem dX9_read_143 : decode cX9_read 143 = .ok (.iload_n 2, 1) := by decide +kernel
theorem dX9_read_144 : decode cX9_read 144 = .ok (.iload_n 3, 1) := by decide +kernel
theorem dX9_read_145 : decode cX9_read 145 = .ok (.invokestatic 162, 3) := by decide +kernel
theorem dX9_read_148 : decode cX9_read 148 = .ok (.iload 5, 2) := by decide +kernel
theorem dX9_read_150 : decode cX9_read 150 = .ok (.iadd, 1) := by decide +kernel
theorem dX9_read_151 : decode cX9_read 151 = .ok (.aload_n 0, 1) := by decide +kernel
theorem dX9_read_152 : decode cX9_read 152 = .ok (.getfield 106, 3) := by decide +kernel
theorem dX9_read_155 : decode cX9_read 155 = .ok (.iload 4, 2) := by decide +kernel
theorem dX9_read_157 : decode cX9_read 157 = .ok (.iload 5, 2) := by decide +kernel
theorem dX9_read_159 : decode cX9_read 159 = .ok (.iadd, 1) := by decide +kernel
theorem dX9_read_160 : decode cX9_read 160 = .ok (.iaload, 1) := by decide +kernel
theorem dX9_read_161 : decode cX9_read 161 = .ok (.iastore, 1) := by decide +kernel
theorem dX9_read_162 : decode cX9_read 162 = .ok (.iinc 5 1, 3) := by decide +kernel
theorem dX9_read_165 : decode cX9_read 165 = .ok (.goto (-32), 3) := by decide +kernel
theorem dX9_read_168 : decode cX9_read 168 = .ok (.iinc 3 1, 3) := by decide +kernel
theorem dX9_read_171 : decode cX9_read 171 = .ok (.goto (-137), 3) := by decide +kernel
theorem dX9_read_174 : decode cX9_read 174 = .ok (.iload_n 3, 1) := by decide +kernel
theorem dX9_read_175 : decode cX9_read 175 = .ok (.ireturn, 1) := by decide +kernel
theorem dX9_road_0 : decode cX9_road 0 = .ok (.iload_n 1, 1) := by decide +kernel
theorem dX9_road_1 : decode cX9_road 1 = .ok (.invokestatic 126, 3) := by decide +kernel
theorem dX9_road_4 : decode cX9_road 4 = .ok (.ifCond .eq 25, 3) := by decide +kernel
theorem dX9_road_7 : decode cX9_road 7 = .ok (.iload_n 2, 1) := by decide +kernel
theorem dX9_road_8 : decode cX9_road 8 = .ok (.invokestatic 126, 3) := by decide +kernel
theorem dX9_road_11 : decode cX9_road 11 = .ok (.ifCond .eq 18, 3) := by decide +kernel
theorem dX9_road_14 : decode cX9_road 14 = .ok (.iload_n 1, 1) := by decide +kernel
theorem dX9_road_15 : decode cX9_road 15 = .ok (.iload_n 2, 1) := by decide +kernel
theorem dX9_road_16 : decode cX9_road 16 = .ok (.if_icmp .eq 13, 3) := by decide +kernel
theorem dX9_road_19 : decode cX9_road 19 = .ok (.iload_n 3, 1) := by decide +kernel
theorem dX9_road_20 : decode cX9_road 20 = .ok (.iconst 0, 1) := by decide +kernel
theorem dX9_road_21 : decode cX9_road 21 = .ok (.bipush 60, 2) := by decide +kernel
theorem dX9_road_23 : decode cX9_road 23 = .ok (.invokestatic 114, 3) := by decide +kernel
theorem dX9_road_26 : decode cX9_road 26 = .ok (.ifCond .ne 6, 3) := by decide +kernel
theorem dX9_road_29 : decode cX9_road 29 = .ok (.bipush (-2), 2) := by decide +kernel
theorem dX9_road_31 : decode cX9_road 31 = .ok (.ireturn, 1) := by decide +kernel
theorem dX9_road_32 : decode cX9_road 32 = .ok (.aload_n 0, 1) := by decide +kernel
theorem dX9_road_33 : decode cX9_road 33 = .ok (.getfield 22, 3) := by decide +kernel
theorem dX9_road_36 : decode cX9_road 36 = .ok (.bipush 8, 2) := by decide +kernel
theorem dX9_road_38 : decode cX9_road 38 = .ok (.iload_n 1, 1) := by decide +kernel
theorem dX9_road_39 : decode cX9_road 39 = .ok (.imul, 1) := by decide +kernel
theorem dX9_road_40 : decode cX9_road 40 = .ok (.iload_n 2, 1) := by decide +kernel
theorem dX9_road_41 : decode cX9_road 41 = .ok (.iadd, 1) := by decide +kernel
theorem dX9_road_42 : decode cX9_road 42 = .ok (.iaload, 1) := by decide +kernel
theorem dX9_road_43 : decode cX9_road 43 = .ok (.istore 4, 2) := by decide +kernel
theorem dX9_road_45 : decode cX9_road 45 = .ok (.aload_n 0, 1) := by decide +kernel
theorem dX9_road_46 : decode cX9_road 46 = .ok (.getfield 22, 3) := by decide +kernel
theorem dX9_road_49 : decode cX9_road 49 = .ok (.bipush 8, 2) := by decide +kernel
theorem dX9_road_51 : decode cX9_road 51 = .ok (.iload_n 1, 1) := by decide +kernel
theorem dX9_road_52 : decode cX9_road 52 = .ok (.imul, 1) := by decide +kernel
theorem dX9_road_53 : decode cX9_road 53 = .ok (.iload_n 2, 1) := by decide +kernel
theorem dX9_road_54 : decode cX9_road 54 = .ok (.iadd, 1) := by decide +kernel
theorem dX9_road_55 : decode cX9_road 55 = .ok (.iload_n 3, 1) := by decide +kernel
theorem dX9_road_56 : decode cX9_road 56 = .ok (.iastore, 1) := by decide +kernel
theorem dX9_road_57 : decode cX9_road 57 = .ok (.aload_n 0, 1) := by decide +kernel
theorem dX9_road_58 : decode cX9_road 58 = .ok (.getfield 22, 3) := by decide +kernel
theorem dX9_road_61 : decode cX9_road 61 = .ok (.bipush 8, 2) := by decide +kernel
theorem dX9_road_63 : decode cX9_road 63 = .ok (.iload_n 2, 1) := by decide +kernel
theorem dX9_road_64 : decode cX9_road 64 = .ok (.imul, 1) := by decide +kernel
theorem dX9_road_65 : decode cX9_road 65 = .ok (.iload_n 1, 1) := by decide +kernel
theorem dX9_road_66 : decode cX9_road 66 = .ok (.iadd, 1) := by decide +kernel
theorem dX9_road_67 : decode cX9_road 67 = .ok (.iload_n 3, 1) := by decide +kernel
theorem dX9_road_68 : decode cX9_road 68 = .ok (.iastore, 1) := by decide +kernel
theorem dX9_road_69 : decode cX9_road 69 = .ok (.iload 4, 2) := by decide +kernel
theorem dX9_road_71 : decode cX9_road 71 = .ok (.ireturn, 1) := by decide +kernel
theorem dX9_round_0 : decode cX9_round 0 = .ok (.iload_n 1, 1) := by decide +kernel
theorem dX9_round_1 : decode cX9_round 1 = .ok (.iconst (-1), 1) := by decide +kernel
theorem dX9_round_2 : decode cX9_round 2 = .ok (.if_icmp .ge 6, 3) := by decide +kernel
theorem dX9_round_5 : decode cX9_round 5 = .ok (.bipush (-2), 2) := by decide +kernel
theorem dX9_round_7 : decode cX9_round 7 = .ok (.ireturn, 1) := by decide +kernel
theorem dX9_round_8 : decode cX9_round 8 = .ok (.aload_n 0, 1) := by decide +kernel
theorem dX9_round_9 : decode cX9_round 9 = .ok (.invokevirtual 274, 3) := by decide +kernel
theorem dX9_round_12 : decode cX9_round 12 = .ok (.ifCond .ne 6, 3) := by decide +kernel
theorem dX9_round_15 : decode cX9_round 15 = .ok (.bipush (-4), 2) := by decide +kernel
theorem dX9_round_17 : decode cX9_round 17 = .ok (.ireturn, 1) := by decide +kernel
theorem dX9_round_18 : decode cX9_round 18 = .ok (.aload_n 0, 1) := by decide +kernel
theorem dX9_round_19 : decode cX9_round 19 = .ok (.invokevirtual 278, 3) := by decide +kernel
theorem dX9_round_22 : decode cX9_round 22 = .ok (.iload_n 1, 1) := by decide +kernel
theorem dX9_round_23 : decode cX9_round 23 = .ok (.iconst (-1), 1) := by decide +kernel
theorem dX9_round_24 : decode cX9_round 24 = .ok (.if_icmp .ne 10, 3) := by decide +kernel
theorem dX9_round_27 : decode cX9_round 27 = .ok (.aload_n 0, 1) := by decide +kernel
theorem dX9_round_28 : decode cX9_round 28 = .ok (.getfield 259, 3) := by decide +kernel
theorem dX9_round_31 : decode cX9_round 31 = .ok (.goto 21, 3) := by decide +kernel
theorem dX9_round_34 : decode cX9_round 34 = .ok (.iload_n 1, 1) := by decide +kernel
theorem dX9_round_35 : decode cX9_round 35 = .ok (.aload_n 0, 1) := by decide +kernel
theorem dX9_round_36 : decode cX9_round 36 = .ok (.getfield 259, 3) := by decide +kernel
theorem dX9_round_39 : decode cX9_round 39 = .ok (.if_icmp .ge 12, 3) := by decide +kernel
theorem dX9_round_42 : decode cX9_round 42 = .ok (.aload_n 0, 1) := by decide +kernel
theorem dX9_round_43 : decode cX9_round 43 = .ok (.getfield 87, 3) := by decide +kernel
theorem dX9_round_46 : decode cX9_round 46 = .ok (.iload_n 1, 1) := by decide +kernel
theorem dX9_round_47 : decode cX9_round 47 = .ok (.iaload, 1) := by decide +kernel
theorem dX9_round_48 : decode cX9_round 48 = .ok (.goto 4, 3) := by decide +kernel
theorem dX9_round_51 : decode cX9_round 51 = .ok (.iconst (-1), 1) := by decide +kernel
theorem dX9_round_52 : decode cX9_round 52 = .ok (.ireturn, 1) := by decide +kernel
theorem dX9_rounds_0 : decode cX9_rounds 0 = .ok (.iload_n 1, 1) := by decide +kernel
theorem dX9_rounds_1 : decode cX9_rounds 1 = .ok (.iconst 0, 1) := by decide +kernel
theorem dX9_rounds_2 : decode cX9_rounds 2 = .ok (.iconst 1, 1) := by decide +kernel
theorem dX9_rounds_3 : decode cX9_rounds 3 = .ok (.invokestatic 114, 3) := by decide +kernel
theorem dX9_rounds_6 : decode cX9_rounds 6 = .ok (.ifCond .ne 9, 3) := by decide +kernel
theorem dX9_rounds_9 : decode cX9_rounds 9 = .ok (.bipush (-2), 2) := by decide +kernel
theorem dX9_rounds_11 : decode cX9_rounds 11 = .ok (.invokestatic 211, 3) := by decide +kernel
theorem dX9_rounds_14 : decode cX9_rounds 14 = .ok (.lreturn, 1) := by decide +kernel
theorem dX9_rounds_15 : decode cX9_rounds 15 = .ok (.aload_n 0, 1) := by decide +kernel
theorem dX9_rounds_16 : decode cX9_rounds 16 = .ok (.invokevirtual 274, 3) := by decide +kernel
theorem dX9_rounds_19 : decode cX9_rounds 19 = .ok (.ifCond .ne 9, 3) := by decide +kernel
theorem dX9_rounds_22 : decode cX9_rounds 22 = .ok (.bipush (-4), 2) := by decide +kernel
theorem dX9_rounds_24 : decode cX9_rounds 24 = .ok (.invokestatic 211, 3) := by decide +kernel
theorem dX9_rounds_27 : decode cX9_rounds 27 = .ok (.lreturn, 1) := by decide +kernel
theorem dX9_rounds_28 : decode cX9_rounds 28 = .ok (.aload_n 0, 1) := by decide +kernel
theorem dX9_rounds_29 : decode cX9_rounds 29 = .ok (.invokevirtual 278, 3) := by decide +kernel
theorem dX9_rounds_32 : decode cX9_rounds 32 = .ok (.aload_n 0, 1) := by decide +kernel
theorem dX9_rounds_33 : decode cX9_rounds 33 = .ok (.getfield 262, 3) := by decide +kernel
theorem dX9_rounds_36 : decode cX9_rounds 36 = .ok (.iconst 5, 1) := by decide +kernel
theorem dX9_rounds_37 : decode cX9_rounds 37 = .ok (.invokestatic 193, 3) := by decide +kernel
theorem dX9_rounds_40 : decode cX9_rounds 40 = .ok (.iload_n 1, 1) := by decide +kernel
theorem dX9_rounds_41 : decode cX9_rounds 41 = .ok (.invokestatic 214, 3) := by decide +kernel
theorem dX9_rounds_44 : decode cX9_rounds 44 = .ok (.lreturn, 1) := by decide +kernel
theorem dX9_row_0 : decode cX9_row 0 = .ok (.iload_n 1, 1) := by decide +kernel
theorem dX9_row_1 : decode cX9_row 1 = .ok (.invokestatic 165, 3) := by decide +kernel
theorem dX9_row_4 : decode cX9_row 4 = .ok (.ifCond .ne 6, 3) := by decide +kernel
theorem dX9_row_7 : decode cX9_row 7 = .ok (.bipush (-2), 2) := by decide +kernel
theorem dX9_row_9 : decode cX9_row 9 = .ok (.ireturn, 1) := by decide +kernel
theorem dX9_row_10 : decode cX9_row 10 = .ok (.aload_n 0, 1) := by decide +kernel
theorem dX9_row_11 : decode cX9_row 11 = .ok (.getfield 96, 3) := by decide +kernel
theorem dX9_row_14 : decode cX9_row 14 = .ok (.iload_n 1, 1) := by decide +kernel
theorem dX9_row_15 : decode cX9_row 15 = .ok (.baload, 1) := by decide +kernel
theorem dX9_row_16 : decode cX9_row 16 = .ok (.ifCond .ne 9, 3) := by decide +kernel
theorem dX9_row_19 : decode cX9_row 19 = .ok (.aload_n 0, 1) := by decide +kernel
theorem dX9_row_20 : decode cX9_row 20 = .ok (.iconst 1, 1) := by decide +kernel
theorem dX9_row_21 : decode cX9_row 21 = .ok (.invokevirtual 171, 3) := by decide +kernel
theorem dX9_row_24 : decode cX9_row 24 = .ok (.ireturn, 1) := by decide +kernel
theorem dX9_row_25 : decode cX9_row 25 = .ok (.iconst 0, 1) := by decide +kernel
theorem dX9_row_26 : decode cX9_row 26 = .ok (.istore_n 2, 1) := by decide +kernel
theorem dX9_row_27 : decode cX9_row 27 = .ok (.iconst 0, 1) := by decide +kernel
theorem dX9_row_28 : decode cX9_row 28 = .ok (.istore_n 3, 1) := by decide +kernel
theorem dX9_row_29 : decode cX9_row 29 = .ok (.iload_n 3, 1) := by decide +kernel
theorem dX9_row_30 : decode cX9_row 30 = .ok (.aload_n 0, 1) := by decide +kernel
theorem dX9_row_31 : decode cX9_row 31 = .ok (.getfield 103, 3) := by decide +kernel
theorem dX9_row_34 : decode cX9_row 34 = .ok (.iload_n 1, 1) := by decide +kernel
theorem dX9_row_35 : decode cX9_row 35 = .ok (.iaload, 1) := by decide +kernel
theorem dX9_row_36 : decode cX9_row 36 = .ok (.if_icmp .ge 50, 3) := by decide +kernel
theorem dX9_row_39 : decode cX9_row 39 = .ok (.aload_n 0, 1) := by decide +kernel
theorem dX9_row_40 : decode cX9_row 40 = .ok (.getfield 106, 3) := by decide +kernel
theorem dX9_row_43 : decode cX9_row 43 = .ok (.bipush 40, 2) := by decide +kernel
theorem dX9_row_45 : decode cX9_row 45 = .ok (.iload_n 1, 1) := by decide +kernel
theorem dX9_row_46 : decode cX9_row 46 = .ok (.imul, 1) := by decide +kernel
theorem dX9_row_47 : decode cX9_row 47 = .ok (.iload_n 3, 1) := by decide +kernel
theorem dX9_row_48 : decode cX9_row 48 = .ok (.iadd, 1) := by decide +kernel
theorem dX9_row_49 : decode cX9_row 49 = .ok (.iaload, 1) := by decide +kernel
theorem dX9_row_50 : decode cX9_row 50 = .ok (.istore 4, 2) := by decide +kernel
theorem dX9_row_52 : decode cX9_row 52 = .ok (.iload 4, 2) := by decide +kernel
theorem dX9_row_54 : decode cX9_row 54 = .ok (.invokestatic 168, 3) := by decide +kernel
theorem dX9_row_57 : decode cX9_row 57 = .ok (.ifCond .eq 13, 3) := by decide +kernel
theorem dX9_row_60 : decode cX9_row 60 = .ok (.iload_n 2, 1) := by decide +kernel
theorem dX9_row_61 : decode cX9_row 61 = .ok (.iload 4, 2) := by decide +kernel
theorem dX9_row_63 : decode cX9_row 63 = .ok (.ishr, 1) := by decide +kernel
theorem dX9_row_64 : decode cX9_row 64 = .ok (.iconst 1, 1) := by decide +kernel
theorem dX9_row_65 : decode cX9_row 65 = .ok (.iand, 1) := by decide +kernel
theorem dX9_row_66 : decode cX9_row 66 = .ok (.iconst 1, 1) := by decide +kernel
theorem dX9_row_67 : decode cX9_row 67 = .ok (.if_icmp .ne 6, 3) := by decide +kernel
theorem dX9_row_70 : decode cX9_row 70 = .ok (.bipush (-3), 2) := by decide +kernel
theorem dX9_row_72 : decode cX9_row 72 = .ok (.ireturn, 1) := by decide +kernel
theorem dX9_row_73 : decode cX9_row 73 = .ok (.iload_n 2, 1) := by decide +kernel
theorem dX9_row_74 : decode cX9_row 74 = .ok (.iconst 1, 1) := by decide +kernel
theorem dX9_row_75 : decode cX9_row 75 = .ok (.iload 4, 2) := by decide +kernel
theorem dX9_row_77 : decode cX9_row 77 = .ok (.ishl, 1) := by decide +kernel
theorem dX9_row_78 : decode cX9_row 78 = .ok (.ior, 1) := by decide +kernel
theorem dX9_row_79 : decode cX9_row 79 = .ok (.istore_n 2, 1) := by decide +kernel
theorem dX9_row_80 : decode cX9_row 80 = .ok (.iinc 3 1, 3) := by decide +kernel
theorem dX9_row_83 : decode cX9_row 83 = .ok (.goto (-54), 3) := by decide +kernel
theorem dX9_row_86 : decode cX9_row 86 = .ok (.aload_n 0, 1) := by decide +kernel
theorem dX9_row_87 : decode cX9_row 87 = .ok (.aload_n 0, 1) := by decide +kernel
theorem dX9_row_88 : decode cX9_row 88 = .ok (.getfield 103, 3) := by decide +kernel
theorem dX9_row_91 : decode cX9_row 91 = .ok (.iload_n 1, 1) := by decide +kernel
theorem dX9_row_92 : decode cX9_row 92 = .ok (.iaload, 1) := by decide +kernel
theorem dX9_row_93 : decode cX9_row 93 = .ok (.putfield 178, 3) := by decide +kernel
theorem dX9_row_96 : decode cX9_row 96 = .ok (.iconst 0, 1) := by decide +kernel
theorem dX9_row_97 : decode cX9_row 97 = .ok (.istore_n 3, 1) := by decide +kernel
theorem dX9_row_98 : decode cX9_row 98 = .ok (.iload_n 3, 1) := by decide +kernel
theorem dX9_row_99 : decode cX9_row 99 = .ok (.aload_n 0, 1) := by decide +kernel
theorem dX9_row_100 : decode cX9_row 100 = .ok (.getfield 178, 3) := by decide +kernel
theorem dX9_row_103 : decode cX9_row 103 = .ok (.if_icmp .ge 26, 3) := by decide +kernel
theorem dX9_row_106 : decode cX9_row 106 = .ok (.aload_n 0, 1) := by decide +kernel
theorem dX9_row_107 : decode cX9_row 107 = .ok (.getfield 56, 3) := by decide +kernel
theorem dX9_row_110 : decode cX9_row 110 = .ok (.iload_n 3, 1) := by decide +kernel
theorem dX9_row_111 : decode cX9_row 111 = .ok (.aload_n 0, 1) := by decide +kernel
theorem dX9_row_112 : decode cX9_row 112 = .ok (.getfield 106, 3) := by decide +kernel
theorem dX9_row_115 : decode cX9_row 115 = .ok (.bipush 40, 2) := by decide +kernel
theorem dX9_row_117 : decode cX9_row 117 = .ok (.iload_n 1, 1) := by decide +kernel
theorem dX9_row_118 : decode cX9_row 118 = .ok (.imul, 1) := by decide +kernel
theorem dX9_row_119 : decode cX9_row 119 = .ok (.iload_n 3, 1) := by decide +kernel
theorem dX9_row_120 : decode cX9_row 120 = .ok (.iadd, 1) := by decide +kernel
theorem dX9_row_121 : decode cX9_row 121 = .ok (.iaload, 1) := by decide +kernel
theorem dX9_row_122 : decode cX9_row 122 = .ok (.iastore, 1) := by decide +kernel
theorem dX9_row_123 : decode cX9_row 123 = .ok (.iinc 3 1, 3) := by decide +kernel
theorem dX9_row_126 : decode cX9_row 126 = .ok (.goto (-28), 3) := by decide +kernel
theorem dX9_row_129 : decode cX9_row 129 = .ok (.aload_n 0, 1) := by decide +kernel
theorem dX9_row_130 : decode cX9_row 130 = .ok (.getfield 178, 3) := by decide +kernel
theorem dX9_row_133 : decode cX9_row 133 = .ok (.ireturn, 1) := by decide +kernel
theorem dX9_set_0 : decode cX9_set 0 = .ok (.iload_n 1, 1) := by decide +kernel
theorem dX9_set_1 : decode cX9_set 1 = .ok (.iconst 0, 1) := by decide +kernel
theorem dX9_set_2 : decode cX9_set 2 = .ok (.iconst 2, 1) := by decide +kernel
theorem dX9_set_3 : decode cX9_set 3 = .ok (.invokestatic 114, 3) := by decide +kernel
theorem dX9_set_6 : decode cX9_set 6 = .ok (.ifCond .eq 42, 3) := by decide +kernel
theorem dX9_set_9 : decode cX9_set 9 = .ok (.iload_n 2, 1) := by decide +kernel
theorem dX9_set_10 : decode cX9_set 10 = .ok (.iload_n 1, 1) := by decide +kernel
theorem dX9_set_11 : decode cX9_set 11 = .ok (.iconst 2, 1) := by decide +kernel
theorem dX9_set_12 : decode cX9_set 12 = .ok (.if_icmp .ne 7, 3) := by decide +kernel
theorem dX9_set_15 : decode cX9_set 15 = .ok (.iconst 0, 1) := by decide +kernel
theorem dX9_set_16 : decode cX9_set 16 = .ok (.goto 4, 3) := by decide +kernel
theorem dX9_set_19 : decode cX9_set 19 = .ok (.iconst 1, 1) := by decide +kernel
theorem dX9_set_20 : decode cX9_set 20 = .ok (.iload_n 1, 1) := by decide +kernel
theorem dX9_set_21 : decode cX9_set 21 = .ok (.ifCond .ne 9, 3) := by decide +kernel
theorem dX9_set_24 : decode cX9_set 24 = .ok (.sipush 200, 3) := by decide +kernel
theorem dX9_set_27 : decode cX9_set 27 = .ok (.goto 15, 3) := by decide +kernel
theorem dX9_set_30 : decode cX9_set 30 = .ok (.iload_n 1, 1) := by decide +kernel
theorem dX9_set_31 : decode cX9_set 31 = .ok (.iconst 1, 1) := by decide +kernel
theorem dX9_set_32 : decode cX9_set 32 = .ok (.if_icmp .ne 8, 3) := by decide +kernel
theorem dX9_set_35 : decode cX9_set 35 = .ok (.bipush 100, 2) := by decide +kernel
theorem dX9_set_37 : decode cX9_set 37 = .ok (.goto 5, 3) := by decide +kernel
theorem dX9_set_40 : decode cX9_set 40 = .ok (.bipush 127, 2) := by decide +kernel
theorem dX9_set_42 : decode cX9_set 42 = .ok (.invokestatic 114, 3) := by decide +kernel
theorem dX9_set_45 : decode cX9_set 45 = .ok (.ifCond .ne 6, 3) := by decide +kernel
theorem dX9_set_48 : decode cX9_set 48 = .ok (.bipush (-2), 2) := by decide +kernel
theorem dX9_set_50 : decode cX9_set 50 = .ok (.ireturn, 1) := by decide +kernel
theorem dX9_set_51 : decode cX9_set 51 = .ok (.iload_n 1, 1) := by decide +kernel
theorem dX9_set_52 : decode cX9_set 52 = .ok (.ifCond .ne 10, 3) := by decide +kernel
theorem dX9_set_55 : decode cX9_set 55 = .ok (.aload_n 0, 1) := by decide +kernel
theorem dX9_set_56 : decode cX9_set 56 = .ok (.getfield 28, 3) := by decide +kernel
theorem dX9_set_59 : decode cX9_set 59 = .ok (.goto 19, 3) := by decide +kernel
theorem dX9_set_62 : decode cX9_set 62 = .ok (.iload_n 1, 1) := by decide +kernel
theorem dX9_set_63 : decode cX9_set 63 = .ok (.iconst 1, 1) := by decide +kernel
theorem dX9_set_64 : decode cX9_set 64 = .ok (.if_icmp .ne 10, 3) := by decide +kernel
theorem dX9_set_67 : decode cX9_set 67 = .ok (.aload_n 0, 1) := by decide +kernel
theorem dX9_set_68 : decode cX9_set 68 = .ok (.getfield 32, 3) := by decide +kernel
theorem dX9_set_71 : decode cX9_set 71 = .ok (.goto 7, 3) := by decide +kernel
theorem dX9_set_74 : decode cX9_set 74 = .ok (.aload_n 0, 1) := by decide +kernel
theorem dX9_set_75 : decode cX9_set 75 = .ok (.getfield 35, 3) := by decide +kernel
theorem dX9_set_78 : decode cX9_set 78 = .ok (.istore_n 3, 1) := by decide +kernel
theorem dX9_set_79 : decode cX9_set 79 = .ok (.aload_n 0, 1) := by decide +kernel
theorem dX9_set_80 : decode cX9_set 80 = .ok (.iload_n 1, 1) := by decide +kernel
theorem dX9_set_81 : decode cX9_set 81 = .ok (.ifCond .ne 7, 3) := by decide +kernel
theorem dX9_set_84 : decode cX9_set 84 = .ok (.iload_n 2, 1) := by decide +kernel
theorem dX9_set_85 : decode cX9_set 85 = .ok (.goto 7, 3) := by decide +kernel
theorem dX9_set_88 : decode cX9_set 88 = .ok (.aload_n 0, 1) := by decide +kernel
theorem dX9_set_89 : decode cX9_set 89 = .ok (.getfield 28, 3) := by decide +kernel
theorem dX9_set_92 : decode cX9_set 92 = .ok (.putfield 28, 3) := by decide +kernel
theorem dX9_set_95 : decode cX9_set 95 = .ok (.aload_n 0, 1) := by decide +kernel
theorem dX9_set_96 : decode cX9_set 96 = .ok (.iload_n 1, 1) := by decide +kernel
theorem dX9_set_97 : decode cX9_set 97 = .ok (.iconst 1, 1) := by decide +kernel
theorem dX9_set_98 : decode cX9_set 98 = .ok (.if_icmp .ne 7, 3) := by decide +kernel
theorem dX9_set_101 : decode cX9_set 101 = .ok (.iload_n 2, 1) := by decide +kernel
theorem dX9_set_102 : decode cX9_set 102 = .ok (.goto 7, 3) := by decide +kernel
theorem dX9_set_105 : decode cX9_set 105 = .ok (.aload_n 0, 1) := by decide +kernel
theorem dX9_set_106 : decode cX9_set 106 = .ok (.getfield 32, 3) := by decide +kernel
theorem dX9_set_109 : decode cX9_set 109 = .ok (.putfield 32, 3) := by decide +kernel
theorem dX9_set_112 : decode cX9_set 112 = .ok (.aload_n 0, 1) := by decide +kernel
theorem dX9_set_113 : decode cX9_set 113 = .ok (.iload_n 1, 1) := by decide +kernel
theorem dX9_set_114 : decode cX9_set 114 = .ok (.iconst 2, 1) := by decide +kernel
theorem dX9_set_115 : decode cX9_set 115 = .ok (.if_icmp .ne 7, 3) := by decide +kernel
theorem dX9_set_118 : decode cX9_set 118 = .ok (.iload_n 2, 1) := by decide +kernel
theorem dX9_set_119 : decode cX9_set 119 = .ok (.goto 7, 3) := by decide +kernel
theorem dX9_set_122 : decode cX9_set 122 = .ok (.aload_n 0, 1) := by decide +kernel
theorem dX9_set_123 : decode cX9_set 123 = .ok (.getfield 35, 3) := by decide +kernel
theorem dX9_set_126 : decode cX9_set 126 = .ok (.putfield 35, 3) := by decide +kernel
theorem dX9_set_129 : decode cX9_set 129 = .ok (.iload_n 3, 1) := by decide +kernel
theorem dX9_set_130 : decode cX9_set 130 = .ok (.ireturn, 1) := by decide +kernel
theorem dX9_sheet_0 : decode cX9_sheet 0 = .ok (.iload_n 1, 1) := by decide +kernel
theorem dX9_sheet_1 : decode cX9_sheet 1 = .ok (.invokestatic 165, 3) := by decide +kernel
theorem dX9_sheet_4 : decode cX9_sheet 4 = .ok (.ifCond .eq 18, 3) := by decide +kernel
theorem dX9_sheet_7 : decode cX9_sheet 7 = .ok (.iload_n 2, 1) := by decide +kernel
theorem dX9_sheet_8 : decode cX9_sheet 8 = .ok (.iconst 0, 1) := by decide +kernel
theorem dX9_sheet_9 : decode cX9_sheet 9 = .ok (.iconst 2, 1) := by decide +kernel
theorem dX9_sheet_10 : decode cX9_sheet 10 = .ok (.invokestatic 114, 3) := by decide +kernel
theorem dX9_sheet_13 : decode cX9_sheet 13 = .ok (.ifCond .eq 9, 3) := by decide +kernel
theorem dX9_sheet_16 : decode cX9_sheet 16 = .ok (.iload_n 3, 1) := by decide +kernel
theorem dX9_sheet_17 : decode cX9_sheet 17 = .ok (.bipush 40, 2) := by decide +kernel
theorem dX9_sheet_19 : decode cX9_sheet 19 = .ok (.if_icmp .le 6, 3) := by decide +kernel
theorem dX9_sheet_22 : decode cX9_sheet 22 = .ok (.bipush (-2), 2) := by decide +kernel
theorem dX9_sheet_24 : decode cX9_sheet 24 = .ok (.ireturn, 1) := by decide +kernel
theorem dX9_sheet_25 : decode cX9_sheet 25 = .ok (.iload_n 3, 1) := by decide +kernel
theorem dX9_sheet_26 : decode cX9_sheet 26 = .ok (.ifCond .ge 9, 3) := by decide +kernel
theorem dX9_sheet_29 : decode cX9_sheet 29 = .ok (.aload_n 0, 1) := by decide +kernel
theorem dX9_sheet_30 : decode cX9_sheet 30 = .ok (.iconst 5, 1) := by decide +kernel
theorem dX9_sheet_31 : decode cX9_sheet 31 = .ok (.invokevirtual 171, 3) := by decide +kernel
theorem dX9_sheet_34 : decode cX9_sheet 34 = .ok (.ireturn, 1) := by decide +kernel
theorem dX9_sheet_35 : decode cX9_sheet 35 = .ok (.aload_n 0, 1) := by decide +kernel
theorem dX9_sheet_36 : decode cX9_sheet 36 = .ok (.getfield 96, 3) := by decide +kernel
theorem dX9_sheet_39 : decode cX9_sheet 39 = .ok (.iload_n 1, 1) := by decide +kernel
theorem dX9_sheet_40 : decode cX9_sheet 40 = .ok (.iconst 1, 1) := by decide +kernel
theorem dX9_sheet_41 : decode cX9_sheet 41 = .ok (.bastore, 1) := by decide +kernel
theorem dX9_sheet_42 : decode cX9_sheet 42 = .ok (.aload_n 0, 1) := by decide +kernel
theorem dX9_sheet_43 : decode cX9_sheet 43 = .ok (.getfield 100, 3) := by decide +kernel
theorem dX9_sheet_46 : decode cX9_sheet 46 = .ok (.iload_n 1, 1) := by decide +kernel
theorem dX9_sheet_47 : decode cX9_sheet 47 = .ok (.iload_n 2, 1) := by decide +kernel
theorem dX9_sheet_48 : decode cX9_sheet 48 = .ok (.iastore, 1) := by decide +kernel
theorem dX9_sheet_49 : decode cX9_sheet 49 = .ok (.aload_n 0, 1) := by decide +kernel
theorem dX9_sheet_50 : decode cX9_sheet 50 = .ok (.getfield 103, 3) := by decide +kernel
theorem dX9_sheet_53 : decode cX9_sheet 53 = .ok (.iload_n 1, 1) := by decide +kernel
theorem dX9_sheet_54 : decode cX9_sheet 54 = .ok (.iload_n 3, 1) := by decide +kernel
theorem dX9_sheet_55 : decode cX9_sheet 55 = .ok (.iastore, 1) := by decide +kernel
theorem dX9_sheet_56 : decode cX9_sheet 56 = .ok (.iconst 0, 1) := by decide +kernel
theorem dX9_sheet_57 : decode cX9_sheet 57 = .ok (.istore 4, 2) := by decide +kernel
theorem dX9_sheet_59 : decode cX9_sheet 59 = .ok (.iload 4, 2) := by decide +kernel
theorem dX9_sheet_61 : decode cX9_sheet 61 = .ok (.bipush 40, 2) := by decide +kernel
theorem dX9_sheet_63 : decode cX9_sheet 63 = .ok (.if_icmp .ge 22, 3) := by decide +kernel
theorem dX9_sheet_66 : decode cX9_sheet 66 = .ok (.aload_n 0, 1) := by decide +kernel
theorem dX9_sheet_67 : decode cX9_sheet 67 = .ok (.getfield 106, 3) := by decide +kernel
theorem dX9_sheet_70 : decode cX9_sheet 70 = .ok (.bipush 40, 2) := by decide +kernel
theorem dX9_sheet_72 : decode cX9_sheet 72 = .ok (.iload_n 1, 1) := by decide +kernel
theorem dX9_sheet_73 : decode cX9_sheet 73 = .ok (.imul, 1) := by decide +kernel
theorem dX9_sheet_74 : decode cX9_sheet 74 = .ok (.iload 4, 2) := by decide +kernel
theorem dX9_sheet_76 : decode cX9_sheet 76 = .ok (.iadd, 1) := by decide +kernel
theorem dX9_sheet_77 : decode cX9_sheet 77 = .ok (.iconst 0, 1) := by decide +kernel
theorem dX9_sheet_78 : decode cX9_sheet 78 = .ok (.iastore, 1) := by decide +kernel
theorem dX9_sheet_79 : decode cX9_sheet 79 = .ok (.iinc 4 1, 3) := by decide +kernel
theorem dX9_sheet_82 : decode cX9_sheet 82 = .ok (.goto (-23), 3) := by decide +kernel
theorem dX9_sheet_85 : decode cX9_sheet 85 = .ok (.iload_n 3, 1) := by decide +kernel
theorem dX9_sheet_86 : decode cX9_sheet 86 = .ok (.ireturn, 1) := by decide +kernel
theorem dX9_shop_0 : decode cX9_shop 0 = .ok (.iload_n 1, 1) := by decide +kernel
theorem dX9_shop_1 : decode cX9_shop 1 = .ok (.invokestatic 118, 3) := by decide +kernel
theorem dX9_shop_4 : decode cX9_shop 4 = .ok (.ifCond .eq 13, 3) := by decide +kernel
theorem dX9_shop_7 : decode cX9_shop 7 = .ok (.iload_n 2, 1) := by decide +kernel
theorem dX9_shop_8 : decode cX9_shop 8 = .ok (.iconst 0, 1) := by decide +kernel
theorem dX9_shop_9 : decode cX9_shop 9 = .ok (.bipush 16, 2) := by decide +kernel
theorem dX9_shop_11 : decode cX9_shop 11 = .ok (.invokestatic 114, 3) := by decide +kernel
theorem dX9_shop_14 : decode cX9_shop 14 = .ok (.ifCond .ne 6, 3) := by decide +kernel
theorem dX9_shop_17 : decode cX9_shop 17 = .ok (.bipush (-2), 2) := by decide +kernel
theorem dX9_shop_19 : decode cX9_shop 19 = .ok (.ireturn, 1) := by decide +kernel
theorem dX9_shop_20 : decode cX9_shop 20 = .ok (.aload_n 0, 1) := by decide +kernel
theorem dX9_shop_21 : decode cX9_shop 21 = .ok (.getfield 41, 3) := by decide +kernel
theorem dX9_shop_24 : decode cX9_shop 24 = .ok (.iload_n 1, 1) := by decide +kernel
theorem dX9_shop_25 : decode cX9_shop 25 = .ok (.iaload, 1) := by decide +kernel
theorem dX9_shop_26 : decode cX9_shop 26 = .ok (.istore_n 3, 1) := by decide +kernel
theorem dX9_shop_27 : decode cX9_shop 27 = .ok (.aload_n 0, 1) := by decide +kernel
theorem dX9_shop_28 : decode cX9_shop 28 = .ok (.getfield 41, 3) := by decide +kernel
theorem dX9_shop_31 : decode cX9_shop 31 = .ok (.iload_n 1, 1) := by decide +kernel
theorem dX9_shop_32 : decode cX9_shop 32 = .ok (.iload_n 2, 1) := by decide +kernel
theorem dX9_shop_33 : decode cX9_shop 33 = .ok (.iastore, 1) := by decide +kernel
theorem dX9_shop_34 : decode cX9_shop 34 = .ok (.iload_n 3, 1) := by decide +kernel
theorem dX9_shop_35 : decode cX9_shop 35 = .ok (.ireturn, 1) := by decide +kernel
theorem dX9_sold_0 : decode cX9_sold 0 = .ok (.iload_n 1, 1) := by decide +kernel
theorem dX9_sold_1 : decode cX9_sold 1 = .ok (.invokestatic 118, 3) := by decide +kernel
theorem dX9_sold_4 : decode cX9_sold 4 = .ok (.ifCond .eq 41, 3) := by decide +kernel
theorem dX9_sold_7 : decode cX9_sold 7 = .ok (.iload_n 2, 1) := by decide +kernel
theorem dX9_sold_8 : decode cX9_sold 8 = .ok (.iconst 0, 1) := by decide +kernel
theorem dX9_sold_9 : decode cX9_sold 9 = .ok (.iconst 4, 1) := by decide +kernel
theorem dX9_sold_10 : decode cX9_sold 10 = .ok (.invokestatic 114, 3) := by decide +kernel
theorem dX9_sold_13 : decode cX9_sold 13 = .ok (.ifCond .eq 32, 3) := by decide +kernel
theorem dX9_sold_16 : decode cX9_sold 16 = .ok (.iload_n 3, 1) := by decide +kernel
theorem dX9_sold_17 : decode cX9_sold 17 = .ok (.iconst 0, 1) := by decide +kernel
theorem dX9_sold_18 : decode cX9_sold 18 = .ok (.iconst 2, 1) := by decide +kernel
theorem dX9_sold_19 : decode cX9_sold 19 = .ok (.invokestatic 114, 3) := by decide +kernel
theorem dX9_sold_22 : decode cX9_sold 22 = .ok (.ifCond .eq 23, 3) := by decide +kernel
theorem dX9_sold_25 : decode cX9_sold 25 = .ok (.iload 4, 2) := by decide +kernel
theorem dX9_sold_27 : decode cX9_sold 27 = .ok (.iconst (-1), 1) := by decide +kernel
theorem dX9_sold_28 : decode cX9_sold 28 = .ok (.iconst 4, 1) := by decide +kernel
theorem dX9_sold_29 : decode cX9_sold 29 = .ok (.invokestatic 114, 3) := by decide +kernel
theorem dX9_sold_32 : decode cX9_sold 32 = .ok (.ifCond .eq 13, 3) := by decide +kernel
theorem dX9_sold_35 : decode cX9_sold 35 = .ok (.iload 5, 2) := by decide +kernel
theorem dX9_sold_37 : decode cX9_sold 37 = .ok (.iconst 0, 1) := by decide +kernel
theorem dX9_sold_38 : decode cX9_sold 38 = .ok (.iconst 1, 1) := by decide +kernel
theorem dX9_sold_39 : decode cX9_sold 39 = .ok (.invokestatic 114, 3) := by decide +kernel
theorem dX9_sold_42 : decode cX9_sold 42 = .ok (.ifCond .ne 9, 3) := by decide +kernel
theorem dX9_sold_45 : decode cX9_sold 45 = .ok (.bipush (-2), 2) := by decide +kernel
theorem dX9_sold_47 : decode cX9_sold 47 = .ok (.invokestatic 211, 3) := by decide +kernel
theorem dX9_sold_50 : decode cX9_sold 50 = .ok (.lreturn, 1) := by decide +kernel
theorem dX9_sold_51 : decode cX9_sold 51 = .ok (.iconst 0, 1) := by decide +kernel
theorem dX9_sold_52 : decode cX9_sold 52 = .ok (.istore 6, 2) := by decide +kernel
theorem dX9_sold_54 : decode cX9_sold 54 = .ok (.iload 6, 2) := by decide +kernel
theorem dX9_sold_56 : decode cX9_sold 56 = .ok (.iconst 5, 1) := by decide +kernel
theorem dX9_sold_57 : decode cX9_sold 57 = .ok (.if_icmp .ge 26, 3) := by decide +kernel
theorem dX9_sold_60 : decode cX9_sold 60 = .ok (.aload_n 0, 1) := by decide +kernel
theorem dX9_sold_61 : decode cX9_sold 61 = .ok (.getfield 72, 3) := by decide +kernel
theorem dX9_sold_64 : decode cX9_sold 64 = .ok (.iload 6, 2) := by decide +kernel
theorem dX9_sold_66 : decode cX9_sold 66 = .ok (.iload 6, 2) := by decide +kernel
theorem dX9_sold_68 : decode cX9_sold 68 = .ok (.ifCond .ne 7, 3) := by decide +kernel
theorem dX9_sold_71 : decode cX9_sold 71 = .ok (.lconst 1, 1) := by decide +kernel
theorem dX9_sold_72 : decode cX9_sold 72 = .ok (.goto 4, 3) := by decide +kernel
theorem dX9_sold_75 : decode cX9_sold 75 = .ok (.lconst 0, 1) := by decide +kernel
theorem dX9_sold_76 : decode cX9_sold 76 = .ok (.lastore, 1) := by decide +kernel
theorem dX9_sold_77 : decode cX9_sold 77 = .ok (.iinc 6 1, 3) := by decide +kernel
theorem dX9_sold_80 : decode cX9_sold 80 = .ok (.goto (-26), 3) := by decide +kernel
theorem dX9_sold_83 : decode cX9_sold 83 = .ok (.iconst 0, 1) := by decide +kernel
theorem dX9_sold_84 : decode cX9_sold 84 = .ok (.istore 6, 2) := by decide +kernel
theorem dX9_sold_86 : decode cX9_sold 86 = .ok (.iload 6, 2) := by decide +kernel
theorem dX9_sold_88 : decode cX9_sold 88 = .ok (.aload_n 0, 1) := by decide +kernel
theorem dX9_sold_89 : decode cX9_sold 89 = .ok (.getfield 178, 3) := by decide +kernel
theorem dX9_sold_92 : decode cX9_sold 92 = .ok (.if_icmp .ge 108, 3) := by decide +kernel
theorem dX9_sold_95 : decode cX9_sold 95 = .ok (.aload_n 0, 1) := by decide +kernel
theorem dX9_sold_96 : decode cX9_sold 96 = .ok (.aload_n 0, 1) := by decide +kernel
theorem dX9_sold_97 : decode cX9_sold 97 = .ok (.getfield 56, 3) := by decide +kernel
theorem dX9_sold_100 : decode cX9_sold 100 = .ok (.iload 6, 2) := by decide +kernel
theorem dX9_sold_102 : decode cX9_sold 102 = .ok (.iaload, 1) := by decide +kernel
theorem dX9_sold_103 : decode cX9_sold 103 = .ok (.iload_n 1, 1) := by decide +kernel
theorem dX9_sold_104 : decode cX9_sold 104 = .ok (.iload_n 3, 1) := by decide +kernel
theorem dX9_sold_105 : decode cX9_sold 105 = .ok (.invokevirtual 175, 3) := by decide +kernel
theorem dX9_sold_108 : decode cX9_sold 108 = .ok (.i2l, 1) := by decide +kernel
theorem dX9_sold_109 : decode cX9_sold 109 = .ok (.lstore 7, 2) := by decide +kernel
theorem dX9_sold_111 : decode cX9_sold 111 = .ok (.iconst 4, 1) := by decide +kernel
theorem dX9_sold_112 : decode cX9_sold 112 = .ok (.istore 9, 2) := by decide +kernel
theorem dX9_sold_114 : decode cX9_sold 114 = .ok (.iload 9, 2) := by decide +kernel
theorem dX9_sold_116 : decode cX9_sold 116 = .ok (.ifCond .lt 78, 3) := by decide +kernel
theorem dX9_sold_119 : decode cX9_sold 119 = .ok (.iload 9, 2) := by decide +kernel
theorem dX9_sold_121 : decode cX9_sold 121 = .ok (.iload_n 2, 1) := by decide +kernel
theorem dX9_sold_122 : decode cX9_sold 122 = .ok (.if_icmp .ne 9, 3) := by decide +kernel
theorem dX9_sold_125 : decode cX9_sold 125 = .ok (.ldc2_w 197, 3) := by decide +kernel
theorem dX9_sold_128 : decode cX9_sold 128 = .ok (.goto 9, 3) := by decide +kernel
theorem dX9_sold_131 : decode cX9_sold 131 = .ok (.ldc2_w 197, 3) := by decide +kernel
theorem dX9_sold_134 : decode cX9_sold 134 = .ok (.lload 7, 2) := by decide +kernel
theorem dX9_sold_136 : decode cX9_sold 136 = .ok (.lsub, 1) := by decide +kernel
theorem dX9_sold_137 : decode cX9_sold 137 = .ok (.lstore 10, 2) := by decide +kernel
theorem dX9_sold_139 : decode cX9_sold 139 = .ok (.aload_n 0, 1) := by decide +kernel
theorem dX9_sold_140 : decode cX9_sold 140 = .ok (.getfield 72, 3) := by decide +kernel
theorem dX9_sold_143 : decode cX9_sold 143 = .ok (.iload 9, 2) := by decide +kernel
theorem dX9_sold_145 : decode cX9_sold 145 = .ok (.iload 9, 2) := by decide +kernel
theorem dX9_sold_147 : decode cX9_sold 147 = .ok (.iload_n 2, 1) := by decide +kernel
theorem dX9_sold_148 : decode cX9_sold 148 = .ok (.if_icmp .le 7, 3) := by decide +kernel
theorem dX9_sold_151 : decode cX9_sold 151 = .ok (.lconst 0, 1) := by decide +kernel
theorem dX9_sold_152 : decode cX9_sold 152 = .ok (.goto 35, 3) := by decide +kernel
theorem dX9_sold_155 : decode cX9_sold 155 = .ok (.aload_n 0, 1) := by decide +kernel
theorem dX9_sold_156 : decode cX9_sold 156 = .ok (.getfield 72, 3) := by decide +kernel
theorem dX9_sold_159 : decode cX9_sold 159 = .ok (.iload 9, 2) := by decide +kernel
theorem dX9_sold_161 : decode cX9_sold 161 = .ok (.laload, 1) := by decide +kernel
theorem dX9_sold_162 : decode cX9_sold 162 = .ok (.lload 10, 2) := by decide +kernel
theorem dX9_sold_164 : decode cX9_sold 164 = .ok (.lmul, 1) := by decide +kernel
theorem dX9_sold_165 : decode cX9_sold 165 = .ok (.iload 9, 2) := by decide +kernel
theorem dX9_sold_167 : decode cX9_sold 167 = .ok (.ifCond .le 18, 3) := by decide +kernel
theorem dX9_sold_170 : decode cX9_sold 170 = .ok (.aload_n 0, 1) := by decide +kernel
theorem dX9_sold_171 : decode cX9_sold 171 = .ok (.getfield 72, 3) := by decide +kernel
theorem dX9_sold_174 : decode cX9_sold 174 = .ok (.iload 9, 2) := by decide +kernel
theorem dX9_sold_176 : decode cX9_sold 176 = .ok (.iconst 1, 1) := by decide +kernel
theorem dX9_sold_177 : decode cX9_sold 177 = .ok (.isub, 1) := by decide +kernel
theorem dX9_sold_178 : decode cX9_sold 178 = .ok (.laload, 1) := by decide +kernel
theorem dX9_sold_179 : decode cX9_sold 179 = .ok (.lload 7, 2) := by decide +kernel
theorem dX9_sold_181 : decode cX9_sold 181 = .ok (.lmul, 1) := by decide +kernel
theorem dX9_sold_182 : decode cX9_sold 182 = .ok (.goto 4, 3) := by decide +kernel
theorem dX9_sold_185 : decode cX9_sold 185 = .ok (.lconst 0, 1) := by decide +kernel
theorem dX9_sold_186 : decode cX9_sold 186 = .ok (.ladd, 1) := by decide +kernel
theorem dX9_sold_187 : decode cX9_sold 187 = .ok (.lastore, 1) := by decide +kernel
theorem dX9_sold_188 : decode cX9_sold 188 = .ok (.iinc 9 (-1), 3) := by decide +kernel
theorem dX9_sold_191 : decode cX9_sold 191 = .ok (.goto (-77), 3) := by decide +kernel
theorem dX9_sold_194 : decode cX9_sold 194 = .ok (.iinc 6 1, 3) := by decide +kernel
theorem dX9_sold_197 : decode cX9_sold 197 = .ok (.goto (-111), 3) := by decide +kernel
theorem dX9_sold_200 : decode cX9_sold 200 = .ok (.lconst 0, 1) := by decide +kernel
theorem dX9_sold_201 : decode cX9_sold 201 = .ok (.lstore 6, 2) := by decide +kernel
theorem dX9_sold_203 : decode cX9_sold 203 = .ok (.iconst 1, 1) := by decide +kernel
theorem dX9_sold_204 : decode cX9_sold 204 = .ok (.istore 8, 2) := by decide +kernel
theorem dX9_sold_206 : decode cX9_sold 206 = .ok (.iload 8, 2) := by decide +kernel
theorem dX9_sold_208 : decode cX9_sold 208 = .ok (.iconst 5, 1) := by decide +kernel
theorem dX9_sold_209 : decode cX9_sold 209 = .ok (.if_icmp .ge 25, 3) := by decide +kernel
theorem dX9_sold_212 : decode cX9_sold 212 = .ok (.lload 6, 2) := by decide +kernel
theorem dX9_sold_214 : decode cX9_sold 214 = .ok (.iload 8, 2) := by decide +kernel
theorem dX9_sold_216 : decode cX9_sold 216 = .ok (.i2l, 1) := by decide +kernel
theorem dX9_sold_217 : decode cX9_sold 217 = .ok (.aload_n 0, 1) := by decide +kernel
theorem dX9_sold_218 : decode cX9_sold 218 = .ok (.getfield 72, 3) := by decide +kernel
theorem dX9_sold_221 : decode cX9_sold 221 = .ok (.iload 8, 2) := by decide +kernel
theorem dX9_sold_223 : decode cX9_sold 223 = .ok (.laload, 1) := by decide +kernel
theorem dX9_sold_224 : decode cX9_sold 224 = .ok (.lmul, 1) := by decide +kernel
theorem dX9_sold_225 : decode cX9_sold 225 = .ok (.ladd, 1) := by decide +kernel
theorem dX9_sold_226 : decode cX9_sold 226 = .ok (.lstore 6, 2) := by decide +kernel
theorem dX9_sold_228 : decode cX9_sold 228 = .ok (.iinc 8 1, 3) := by decide +kernel
theorem dX9_sold_231 : decode cX9_sold 231 = .ok (.goto (-25), 3) := by decide +kernel
theorem dX9_sold_234 : decode cX9_sold 234 = .ok (.iload 4, 2) := by decide +kernel
theorem dX9_sold_236 : decode cX9_sold 236 = .ok (.iconst (-1), 1) := by decide +kernel
theorem dX9_sold_237 : decode cX9_sold 237 = .ok (.if_icmp .ne 8, 3) := by decide +kernel
theorem dX9_sold_240 : decode cX9_sold 240 = .ok (.lload 6, 2) := by decide +kernel
theorem dX9_sold_242 : decode cX9_sold 242 = .ok (.goto 10, 3) := by decide +kernel
theorem dX9_sold_245 : decode cX9_sold 245 = .ok (.aload_n 0, 1) := by decide +kernel
theorem dX9_sold_246 : decode cX9_sold 246 = .ok (.getfield 72, 3) := by decide +kernel
theorem dX9_sold_249 : decode cX9_sold 249 = .ok (.iload 4, 2) := by decide +kernel
theorem dX9_sold_251 : decode cX9_sold 251 = .ok (.laload, 1) := by decide +kernel
theorem dX9_sold_252 : decode cX9_sold 252 = .ok (.aload_n 0, 1) := by decide +kernel
theorem dX9_sold_253 : decode cX9_sold 253 = .ok (.getfield 178, 3) := by decide +kernel
theorem dX9_sold_256 : decode cX9_sold 256 = .ok (.invokestatic 193, 3) := by decide +kernel
theorem dX9_sold_259 : decode cX9_sold 259 = .ok (.iload 5, 2) := by decide +kernel
theorem dX9_sold_261 : decode cX9_sold 261 = .ok (.invokestatic 214, 3) := by decide +kernel
theorem dX9_sold_264 : decode cX9_sold 264 = .ok (.lreturn, 1) := by decide +kernel
theorem dX9_straps_0 : decode cX9_straps 0 = .ok (.aload_n 0, 1) := by decide +kernel
theorem dX9_straps_1 : decode cX9_straps 1 = .ok (.invokevirtual 296, 3) := by decide +kernel
theorem dX9_straps_4 : decode cX9_straps 4 = .ok (.ireturn, 1) := by decide +kernel
theorem dX9_thing_0 : decode cX9_thing 0 = .ok (.iload_n 1, 1) := by decide +kernel
theorem dX9_thing_1 : decode cX9_thing 1 = .ok (.invokestatic 118, 3) := by decide +kernel
theorem dX9_thing_4 : decode cX9_thing 4 = .ok (.ifCond .eq 12, 3) := by decide +kernel
theorem dX9_thing_7 : decode cX9_thing 7 = .ok (.iload_n 2, 1) := by decide +kernel
theorem dX9_thing_8 : decode cX9_thing 8 = .ok (.iconst 0, 1) := by decide +kernel
theorem dX9_thing_9 : decode cX9_thing 9 = .ok (.iconst 5, 1) := by decide +kernel
theorem dX9_thing_10 : decode cX9_thing 10 = .ok (.invokestatic 114, 3) := by decide +kernel
theorem dX9_thing_13 : decode cX9_thing 13 = .ok (.ifCond .ne 6, 3) := by decide +kernel
theorem dX9_thing_16 : decode cX9_thing 16 = .ok (.bipush (-2), 2) := by decide +kernel
theorem dX9_thing_18 : decode cX9_thing 18 = .ok (.ireturn, 1) := by decide +kernel
theorem dX9_thing_19 : decode cX9_thing 19 = .ok (.iload_n 2, 1) := by decide +kernel
theorem dX9_thing_20 : decode cX9_thing 20 = .ok (.iconst 1, 1) := by decide +kernel
theorem dX9_thing_21 : decode cX9_thing 21 = .ok (.if_icmp .ne 7, 3) := by decide +kernel
theorem dX9_thing_24 : decode cX9_thing 24 = .ok (.iconst 1, 1) := by decide +kernel
theorem dX9_thing_25 : decode cX9_thing 25 = .ok (.goto 24, 3) := by decide +kernel
theorem dX9_thing_28 : decode cX9_thing 28 = .ok (.iload_n 2, 1) := by decide +kernel
theorem dX9_thing_29 : decode cX9_thing 29 = .ok (.iconst 3, 1) := by decide +kernel
theorem dX9_thing_30 : decode cX9_thing 30 = .ok (.if_icmp .le 18, 3) := by decide +kernel
theorem dX9_thing_33 : decode cX9_thing 33 = .ok (.aload_n 0, 1) := by decide +kernel
theorem dX9_thing_34 : decode cX9_thing 34 = .ok (.getfield 19, 3) := by decide +kernel
theorem dX9_thing_37 : decode cX9_thing 37 = .ok (.iconst 3, 1) := by decide +kernel
theorem dX9_thing_38 : decode cX9_thing 38 = .ok (.iload_n 1, 1) := by decide +kernel
theorem dX9_thing_39 : decode cX9_thing 39 = .ok (.imul, 1) := by decide +kernel
theorem dX9_thing_40 : decode cX9_thing 40 = .ok (.iload_n 2, 1) := by decide +kernel
theorem dX9_thing_41 : decode cX9_thing 41 = .ok (.iadd, 1) := by decide +kernel
theorem dX9_thing_42 : decode cX9_thing 42 = .ok (.iconst 4, 1) := by decide +kernel
theorem dX9_thing_43 : decode cX9_thing 43 = .ok (.isub, 1) := by decide +kernel
theorem dX9_thing_44 : decode cX9_thing 44 = .ok (.iaload, 1) := by decide +kernel
theorem dX9_thing_45 : decode cX9_thing 45 = .ok (.goto 4, 3) := by decide +kernel
theorem dX9_thing_48 : decode cX9_thing 48 = .ok (.iconst 0, 1) := by decide +kernel
theorem dX9_thing_49 : decode cX9_thing 49 = .ok (.istore 4, 2) := by decide +kernel
theorem dX9_thing_51 : decode cX9_thing 51 = .ok (.iload_n 2, 1) := by decide +kernel
theorem dX9_thing_52 : decode cX9_thing 52 = .ok (.iconst 1, 1) := by decide +kernel
theorem dX9_thing_53 : decode cX9_thing 53 = .ok (.if_icmp .ne 8, 3) := by decide +kernel
theorem dX9_thing_56 : decode cX9_thing 56 = .ok (.bipush 20, 2) := by decide +kernel
theorem dX9_thing_58 : decode cX9_thing 58 = .ok (.goto 30, 3) := by decide +kernel
theorem dX9_thing_61 : decode cX9_thing 61 = .ok (.iload_n 2, 1) := by decide +kernel
theorem dX9_thing_62 : decode cX9_thing 62 = .ok (.iconst 2, 1) := by decide +kernel
theorem dX9_thing_63 : decode cX9_thing 63 = .ok (.if_icmp .le 23, 3) := by decide +kernel
theorem dX9_thing_66 : decode cX9_thing 66 = .ok (.iload_n 2, 1) := by decide +kernel
theorem dX9_thing_67 : decode cX9_thing 67 = .ok (.iconst 5, 1) := by decide +kernel
theorem dX9_thing_68 : decode cX9_thing 68 = .ok (.if_icmp .ge 18, 3) := by decide +kernel
theorem dX9_thing_71 : decode cX9_thing 71 = .ok (.aload_n 0, 1) := by decide +kernel
theorem dX9_thing_72 : decode cX9_thing 72 = .ok (.getfield 19, 3) := by decide +kernel
theorem dX9_thing_75 : decode cX9_thing 75 = .ok (.iconst 3, 1) := by decide +kernel
theorem dX9_thing_76 : decode cX9_thing 76 = .ok (.iload_n 1, 1) := by decide +kernel
theorem dX9_thing_77 : decode cX9_thing 77 = .ok (.imul, 1) := by decide +kernel
theorem dX9_thing_78 : decode cX9_thing 78 = .ok (.iload_n 2, 1) := by decide +kernel
theorem dX9_thing_79 : decode cX9_thing 79 = .ok (.iadd, 1) := by decide +kernel
theorem dX9_thing_80 : decode cX9_thing 80 = .ok (.iconst 2, 1) := by decide +kernel
theorem dX9_thing_81 : decode cX9_thing 81 = .ok (.isub, 1) := by decide +kernel
theorem dX9_thing_82 : decode cX9_thing 82 = .ok (.iaload, 1) := by decide +kernel
theorem dX9_thing_83 : decode cX9_thing 83 = .ok (.goto 5, 3) := by decide +kernel
theorem dX9_thing_86 : decode cX9_thing 86 = .ok (.bipush 99, 2) := by decide +kernel
theorem dX9_thing_88 : decode cX9_thing 88 = .ok (.istore 5, 2) := by decide +kernel
theorem dX9_thing_90 : decode cX9_thing 90 = .ok (.iload_n 3, 1) := by decide +kernel
theorem dX9_thing_91 : decode cX9_thing 91 = .ok (.iload 4, 2) := by decide +kernel
theorem dX9_thing_93 : decode cX9_thing 93 = .ok (.iload 5, 2) := by decide +kernel
theorem dX9_thing_95 : decode cX9_thing 95 = .ok (.invokestatic 114, 3) := by decide +kernel
theorem dX9_thing_98 : decode cX9_thing 98 = .ok (.ifCond .ne 6, 3) := by decide +kernel
theorem dX9_thing_101 : decode cX9_thing 101 = .ok (.bipush (-2), 2) := by decide +kernel
theorem dX9_thing_103 : decode cX9_thing 103 = .ok (.ireturn, 1) := by decide +kernel
theorem dX9_thing_104 : decode cX9_thing 104 = .ok (.aload_n 0, 1) := by decide +kernel
theorem dX9_thing_105 : decode cX9_thing 105 = .ok (.iload_n 1, 1) := by decide +kernel
theorem dX9_thing_106 : decode cX9_thing 106 = .ok (.iload_n 2, 1) := by decide +kernel
theorem dX9_thing_107 : decode cX9_thing 107 = .ok (.invokevirtual 122, 3) := by decide +kernel
theorem dX9_thing_110 : decode cX9_thing 110 = .ok (.istore 6, 2) := by decide +kernel
theorem dX9_thing_112 : decode cX9_thing 112 = .ok (.aload_n 0, 1) := by decide +kernel
theorem dX9_thing_113 : decode cX9_thing 113 = .ok (.getfield 7, 3) := by decide +kernel
theorem dX9_thing_116 : decode cX9_thing 116 = .ok (.iload_n 1, 1) := by decide +kernel
theorem dX9_thing_117 : decode cX9_thing 117 = .ok (.iload_n 2, 1) := by decide +kernel
theorem dX9_thing_118 : decode cX9_thing 118 = .ok (.ifCond .ne 7, 3) := by decide +kernel
theorem dX9_thing_121 : decode cX9_thing 121 = .ok (.iload_n 3, 1) := by decide +kernel
theorem dX9_thing_122 : decode cX9_thing 122 = .ok (.goto 9, 3) := by decide +kernel
theorem dX9_thing_125 : decode cX9_thing 125 = .ok (.aload_n 0, 1) := by decide +kernel
theorem dX9_thing_126 : decode cX9_thing 126 = .ok (.getfield 7, 3) := by decide +kernel
theorem dX9_thing_129 : decode cX9_thing 129 = .ok (.iload_n 1, 1) := by decide +kernel
theorem dX9_thing_130 : decode cX9_thing 130 = .ok (.iaload, 1) := by decide +kernel
theorem dX9_thing_131 : decode cX9_thing 131 = .ok (.iastore, 1) := by decide +kernel
theorem dX9_thing_132 : decode cX9_thing 132 = .ok (.aload_n 0, 1) := by decide +kernel
theorem dX9_thing_133 : decode cX9_thing 133 = .ok (.getfield 13, 3) := by decide +kernel
theorem dX9_thing_136 : decode cX9_thing 136 = .ok (.iload_n 1, 1) := by decide +kernel
theorem dX9_thing_137 : decode cX9_thing 137 = .ok (.iload_n 2, 1) := by decide +kernel
theorem dX9_thing_138 : decode cX9_thing 138 = .ok (.iconst 1, 1) := by decide +kernel
theorem dX9_thing_139 : decode cX9_thing 139 = .ok (.if_icmp .ne 7, 3) := by decide +kernel
theorem dX9_thing_142 : decode cX9_thing 142 = .ok (.iload_n 3, 1) := by decide +kernel
theorem dX9_thing_143 : decode cX9_thing 143 = .ok (.goto 9, 3) := by decide +kernel
theorem dX9_thing_146 : decode cX9_thing 146 = .ok (.aload_n 0, 1) := by decide +kernel
theorem dX9_thing_147 : decode cX9_thing 147 = .ok (.getfield 13, 3) := by decide +kernel
theorem dX9_thing_150 : decode cX9_thing 150 = .ok (.iload_n 1, 1) := by decide +kernel
theorem dX9_thing_151 : decode cX9_thing 151 = .ok (.iaload, 1) := by decide +kernel
theorem dX9_thing_152 : decode cX9_thing 152 = .ok (.iastore, 1) := by decide +kernel
theorem dX9_thing_153 : decode cX9_thing 153 = .ok (.aload_n 0, 1) := by decide +kernel
theorem dX9_thing_154 : decode cX9_thing 154 = .ok (.getfield 16, 3) := by decide +kernel
theorem dX9_thing_157 : decode cX9_thing 157 = .ok (.iload_n 1, 1) := by decide +kernel
theorem dX9_thing_158 : decode cX9_thing 158 = .ok (.iload_n 2, 1) := by decide +kernel
theorem dX9_thing_159 : decode cX9_thing 159 = .ok (.iconst 2, 1) := by decide +kernel
theorem dX9_thing_160 : decode cX9_thing 160 = .ok (.if_icmp .ne 7, 3) := by decide +kernel
theorem dX9_thing_163 : decode cX9_thing 163 = .ok (.iload_n 3, 1) := by decide +kernel
theorem dX9_thing_164 : decode cX9_thing 164 = .ok (.goto 9, 3) := by decide +kernel
theorem dX9_thing_167 : decode cX9_thing 167 = .ok (.aload_n 0, 1) := by decide +kernel
theorem dX9_thing_168 : decode cX9_thing 168 = .ok (.getfield 16, 3) := by decide +kernel
theorem dX9_thing_171 : decode cX9_thing 171 = .ok (.iload_n 1, 1) := by decide +kernel
theorem dX9_thing_172 : decode cX9_thing 172 = .ok (.iaload, 1) := by decide +kernel
theorem dX9_thing_173 : decode cX9_thing 173 = .ok (.iastore, 1) := by decide +kernel
theorem dX9_thing_174 : decode cX9_thing 174 = .ok (.iload_n 2, 1) := by decide +kernel
theorem dX9_thing_175 : decode cX9_thing 175 = .ok (.iconst 2, 1) := by decide +kernel
theorem dX9_thing_176 : decode cX9_thing 176 = .ok (.if_icmp .le 16, 3) := by decide +kernel
theorem dX9_thing_179 : decode cX9_thing 179 = .ok (.aload_n 0, 1) := by decide +kernel
theorem dX9_thing_180 : decode cX9_thing 180 = .ok (.getfield 19, 3) := by decide +kernel
theorem dX9_thing_183 : decode cX9_thing 183 = .ok (.iconst 3, 1) := by decide +kernel
theorem dX9_thing_184 : decode cX9_thing 184 = .ok (.iload_n 1, 1) := by decide +kernel
theorem dX9_thing_185 : decode cX9_thing 185 = .ok (.imul, 1) := by decide +kernel
theorem dX9_thing_186 : decode cX9_thing 186 = .ok (.iload_n 2, 1) := by decide +kernel
theorem dX9_thing_187 : decode cX9_thing 187 = .ok (.iadd, 1) := by decide +kernel
theorem dX9_thing_188 : decode cX9_thing 188 = .ok (.iconst 3, 1) := by decide +kernel
theorem dX9_thing_189 : decode cX9_thing 189 = .ok (.isub, 1) := by decide +kernel
theorem dX9_thing_190 : decode cX9_thing 190 = .ok (.iload_n 3, 1) := by decide +kernel
theorem dX9_thing_191 : decode cX9_thing 191 = .ok (.iastore, 1) := by decide +kernel
theorem dX9_thing_192 : decode cX9_thing 192 = .ok (.iload 6, 2) := by decide +kernel
theorem dX9_thing_194 : decode cX9_thing 194 = .ok (.ireturn, 1) := by decide +kernel
theorem dX9_trust_0 : decode cX9_trust 0 = .ok (.iload_n 1, 1) := by decide +kernel
theorem dX9_trust_1 : decode cX9_trust 1 = .ok (.invokestatic 118, 3) := by decide +kernel
theorem dX9_trust_4 : decode cX9_trust 4 = .ok (.ifCond .eq 47, 3) := by decide +kernel
theorem dX9_trust_7 : decode cX9_trust 7 = .ok (.iload_n 2, 1) := by decide +kernel
theorem dX9_trust_8 : decode cX9_trust 8 = .ok (.iconst 0, 1) := by decide +kernel
theorem dX9_trust_9 : decode cX9_trust 9 = .ok (.aload_n 0, 1) := by decide +kernel
theorem dX9_trust_10 : decode cX9_trust 10 = .ok (.getfield 178, 3) := by decide +kernel
theorem dX9_trust_13 : decode cX9_trust 13 = .ok (.iconst 1, 1) := by decide +kernel
theorem dX9_trust_14 : decode cX9_trust 14 = .ok (.isub, 1) := by decide +kernel
theorem dX9_trust_15 : decode cX9_trust 15 = .ok (.invokestatic 114, 3) := by decide +kernel
theorem dX9_trust_18 : decode cX9_trust 18 = .ok (.ifCond .eq 33, 3) := by decide +kernel
theorem dX9_trust_21 : decode cX9_trust 21 = .ok (.iload_n 3, 1) := by decide +kernel
theorem dX9_trust_22 : decode cX9_trust 22 = .ok (.iconst 1, 1) := by decide +kernel
theorem dX9_trust_23 : decode cX9_trust 23 = .ok (.iconst 4, 1) := by decide +kernel
theorem dX9_trust_24 : decode cX9_trust 24 = .ok (.invokestatic 114, 3) := by decide +kernel
theorem dX9_trust_27 : decode cX9_trust 27 = .ok (.ifCond .eq 24, 3) := by decide +kernel
theorem dX9_trust_30 : decode cX9_trust 30 = .ok (.iload 4, 2) := by decide +kernel
theorem dX9_trust_32 : decode cX9_trust 32 = .ok (.iconst 0, 1) := by decide +kernel
theorem dX9_trust_33 : decode cX9_trust 33 = .ok (.iconst 2, 1) := by decide +kernel
theorem dX9_trust_34 : decode cX9_trust 34 = .ok (.invokestatic 114, 3) := by decide +kernel
theorem dX9_trust_37 : decode cX9_trust 37 = .ok (.ifCond .eq 14, 3) := by decide +kernel
theorem dX9_trust_40 : decode cX9_trust 40 = .ok (.iload 5, 2) := by decide +kernel
theorem dX9_trust_42 : decode cX9_trust 42 = .ok (.iconst 0, 1) := by decide +kernel
theorem dX9_trust_43 : decode cX9_trust 43 = .ok (.bipush 16, 2) := by decide +kernel
theorem dX9_trust_45 : decode cX9_trust 45 = .ok (.invokestatic 114, 3) := by decide +kernel
theorem dX9_trust_48 : decode cX9_trust 48 = .ok (.ifCond .ne 6, 3) := by decide +kernel
theorem dX9_trust_51 : decode cX9_trust 51 = .ok (.bipush (-2), 2) := by decide +kernel
theorem dX9_trust_53 : decode cX9_trust 53 = .ok (.ireturn, 1) := by decide +kernel
theorem dX9_trust_54 : decode cX9_trust 54 = .ok (.aload_n 0, 1) := by decide +kernel
theorem dX9_trust_55 : decode cX9_trust 55 = .ok (.invokevirtual 199, 3) := by decide +kernel
theorem dX9_trust_58 : decode cX9_trust 58 = .ok (.iload 5, 2) := by decide +kernel
theorem dX9_trust_60 : decode cX9_trust 60 = .ok (.i2l, 1) := by decide +kernel
theorem dX9_trust_61 : decode cX9_trust 61 = .ok (.aload_n 0, 1) := by decide +kernel
theorem dX9_trust_62 : decode cX9_trust 62 = .ok (.getfield 19, 3) := by decide +kernel
theorem dX9_trust_65 : decode cX9_trust 65 = .ok (.iconst 3, 1) := by decide +kernel
theorem dX9_trust_66 : decode cX9_trust 66 = .ok (.iload_n 1, 1) := by decide +kernel
theorem dX9_trust_67 : decode cX9_trust 67 = .ok (.imul, 1) := by decide +kernel
theorem dX9_trust_68 : decode cX9_trust 68 = .ok (.iload 4, 2) := by decide +kernel
theorem dX9_trust_70 : decode cX9_trust 70 = .ok (.iadd, 1) := by decide +kernel
theorem dX9_trust_71 : decode cX9_trust 71 = .ok (.iaload, 1) := by decide +kernel
theorem dX9_trust_72 : decode cX9_trust 72 = .ok (.i2l, 1) := by decide +kernel
theorem dX9_trust_73 : decode cX9_trust 73 = .ok (.aload_n 0, 1) := by decide +kernel
theorem dX9_trust_74 : decode cX9_trust 74 = .ok (.getfield 178, 3) := by decide +kernel
theorem dX9_trust_77 : decode cX9_trust 77 = .ok (.iconst 1, 1) := by decide +kernel
theorem dX9_trust_78 : decode cX9_trust 78 = .ok (.isub, 1) := by decide +kernel
theorem dX9_trust_79 : decode cX9_trust 79 = .ok (.iload_n 2, 1) := by decide +kernel
theorem dX9_trust_80 : decode cX9_trust 80 = .ok (.isub, 1) := by decide +kernel
theorem dX9_trust_81 : decode cX9_trust 81 = .ok (.invokestatic 193, 3) := by decide +kernel
theorem dX9_trust_84 : decode cX9_trust 84 = .ok (.lmul, 1) := by decide +kernel
theorem dX9_trust_85 : decode cX9_trust 85 = .ok (.lmul, 1) := by decide +kernel
theorem dX9_trust_86 : decode cX9_trust 86 = .ok (.ldc2_w 197, 3) := by decide +kernel
theorem dX9_trust_89 : decode cX9_trust 89 = .ok (.aload_n 0, 1) := by decide +kernel
theorem dX9_trust_90 : decode cX9_trust 90 = .ok (.getfield 65, 3) := by decide +kernel
theorem dX9_trust_93 : decode cX9_trust 93 = .ok (.iload_n 1, 1) := by decide +kernel
theorem dX9_trust_94 : decode cX9_trust 94 = .ok (.iload_n 2, 1) := by decide +kernel
theorem dX9_trust_95 : decode cX9_trust 95 = .ok (.iconst 1, 1) := by decide +kernel
theorem dX9_trust_96 : decode cX9_trust 96 = .ok (.iadd, 1) := by decide +kernel
theorem dX9_trust_97 : decode cX9_trust 97 = .ok (.iload_n 3, 1) := by decide +kernel
theorem dX9_trust_98 : decode cX9_trust 98 = .ok (.iconst 1, 1) := by decide +kernel
theorem dX9_trust_99 : decode cX9_trust 99 = .ok (.isub, 1) := by decide +kernel
theorem dX9_trust_100 : decode cX9_trust 100 = .ok (.invokestatic 190, 3) := by decide +kernel
theorem dX9_trust_103 : decode cX9_trust 103 = .ok (.laload, 1) := by decide +kernel
theorem dX9_trust_104 : decode cX9_trust 104 = .ok (.lmul, 1) := by decide +kernel
theorem dX9_trust_105 : decode cX9_trust 105 = .ok (.ladd, 1) := by decide +kernel
theorem dX9_trust_106 : decode cX9_trust 106 = .ok (.lstore 6, 2) := by decide +kernel
theorem dX9_trust_108 : decode cX9_trust 108 = .ok (.lload 6, 2) := by decide +kernel
theorem dX9_trust_110 : decode cX9_trust 110 = .ok (.aload_n 0, 1) := by decide +kernel
theorem dX9_trust_111 : decode cX9_trust 111 = .ok (.getfield 65, 3) := by decide +kernel
theorem dX9_trust_114 : decode cX9_trust 114 = .ok (.iload_n 1, 1) := by decide +kernel
theorem dX9_trust_115 : decode cX9_trust 115 = .ok (.iload_n 2, 1) := by decide +kernel
theorem dX9_trust_116 : decode cX9_trust 116 = .ok (.iload_n 3, 1) := by decide +kernel
theorem dX9_trust_117 : decode cX9_trust 117 = .ok (.invokestatic 190, 3) := by decide +kernel
theorem dX9_trust_120 : decode cX9_trust 120 = .ok (.laload, 1) := by decide +kernel
theorem dX9_trust_121 : decode cX9_trust 121 = .ok (.lcmp, 1) := by decide +kernel
theorem dX9_trust_122 : decode cX9_trust 122 = .ok (.ifCond .le 7, 3) := by decide +kernel
theorem dX9_trust_125 : decode cX9_trust 125 = .ok (.iconst 1, 1) := by decide +kernel
theorem dX9_trust_126 : decode cX9_trust 126 = .ok (.goto 4, 3) := by decide +kernel
theorem dX9_trust_129 : decode cX9_trust 129 = .ok (.iconst 0, 1) := by decide +kernel
theorem dX9_trust_130 : decode cX9_trust 130 = .ok (.ireturn, 1) := by decide +kernel
theorem dX9_two_0 : decode cX9_two 0 = .ok (.iload_n 1, 1) := by decide +kernel
theorem dX9_two_1 : decode cX9_two 1 = .ok (.iconst 0, 1) := by decide +kernel
theorem dX9_two_2 : decode cX9_two 2 = .ok (.iconst 1, 1) := by decide +kernel
theorem dX9_two_3 : decode cX9_two 3 = .ok (.invokestatic 114, 3) := by decide +kernel
theorem dX9_two_6 : decode cX9_two 6 = .ok (.ifCond .ne 6, 3) := by decide +kernel
theorem dX9_two_9 : decode cX9_two 9 = .ok (.bipush (-2), 2) := by decide +kernel
theorem dX9_two_11 : decode cX9_two 11 = .ok (.ireturn, 1) := by decide +kernel
theorem dX9_two_12 : decode cX9_two 12 = .ok (.aload_n 0, 1) := by decide +kernel
theorem dX9_two_13 : decode cX9_two 13 = .ok (.invokevirtual 274, 3) := by decide +kernel
theorem dX9_two_16 : decode cX9_two 16 = .ok (.ifCond .ne 6, 3) := by decide +kernel
theorem dX9_two_19 : decode cX9_two 19 = .ok (.bipush (-4), 2) := by decide +kernel
theorem dX9_two_21 : decode cX9_two 21 = .ok (.ireturn, 1) := by decide +kernel
theorem dX9_two_22 : decode cX9_two 22 = .ok (.aload_n 0, 1) := by decide +kernel
theorem dX9_two_23 : decode cX9_two 23 = .ok (.invokevirtual 290, 3) := by decide +kernel
theorem dX9_two_26 : decode cX9_two 26 = .ok (.iload_n 1, 1) := by decide +kernel
theorem dX9_two_27 : decode cX9_two 27 = .ok (.ifCond .ne 10, 3) := by decide +kernel
theorem dX9_two_30 : decode cX9_two 30 = .ok (.aload_n 0, 1) := by decide +kernel
theorem dX9_two_31 : decode cX9_two 31 = .ok (.getfield 284, 3) := by decide +kernel
theorem dX9_two_34 : decode cX9_two 34 = .ok (.goto 7, 3) := by decide +kernel
theorem dX9_two_37 : decode cX9_two 37 = .ok (.aload_n 0, 1) := by decide +kernel
theorem dX9_two_38 : decode cX9_two 38 = .ok (.getfield 287, 3) := by decide +kernel
theorem dX9_two_41 : decode cX9_two 41 = .ok (.istore_n 2, 1) := by decide +kernel
theorem dX9_two_42 : decode cX9_two 42 = .ok (.iconst 0, 1) := by decide +kernel
theorem dX9_two_43 : decode cX9_two 43 = .ok (.istore_n 3, 1) := by decide +kernel
theorem dX9_two_44 : decode cX9_two 44 = .ok (.iconst 0, 1) := by decide +kernel
theorem dX9_two_45 : decode cX9_two 45 = .ok (.istore 4, 2) := by decide +kernel
theorem dX9_two_47 : decode cX9_two 47 = .ok (.iload 4, 2) := by decide +kernel
theorem dX9_two_49 : decode cX9_two 49 = .ok (.aload_n 0, 1) := by decide +kernel
theorem dX9_two_50 : decode cX9_two 50 = .ok (.getfield 256, 3) := by decide +kernel
theorem dX9_two_53 : decode cX9_two 53 = .ok (.if_icmp .ge 37, 3) := by decide +kernel
theorem dX9_two_56 : decode cX9_two 56 = .ok (.iload_n 3, 1) := by decide +kernel
theorem dX9_two_57 : decode cX9_two 57 = .ok (.iload_n 2, 1) := by decide +kernel
theorem dX9_two_58 : decode cX9_two 58 = .ok (.iload 4, 2) := by decide +kernel
theorem dX9_two_60 : decode cX9_two 60 = .ok (.ishr, 1) := by decide +kernel
theorem dX9_two_61 : decode cX9_two 61 = .ok (.iconst 1, 1) := by decide +kernel
theorem dX9_two_62 : decode cX9_two 62 = .ok (.iand, 1) := by decide +kernel
theorem dX9_two_63 : decode cX9_two 63 = .ok (.iconst 1, 1) := by decide +kernel
theorem dX9_two_64 : decode cX9_two 64 = .ok (.if_icmp .ne 17, 3) := by decide +kernel
theorem dX9_two_67 : decode cX9_two 67 = .ok (.iconst 1, 1) := by decide +kernel
theorem dX9_two_68 : decode cX9_two 68 = .ok (.aload_n 0, 1) := by decide +kernel
theorem dX9_two_69 : decode cX9_two 69 = .ok (.getfield 81, 3) := by decide +kernel
theorem dX9_two_72 : decode cX9_two 72 = .ok (.iload 4, 2) := by decide +kernel
theorem dX9_two_74 : decode cX9_two 74 = .ok (.iaload, 1) := by decide +kernel
theorem dX9_two_75 : decode cX9_two 75 = .ok (.iconst 1, 1) := by decide +kernel
theorem dX9_two_76 : decode cX9_two 76 = .ok (.isub, 1) := by decide +kernel
theorem dX9_two_77 : decode cX9_two 77 = .ok (.ishl, 1) := by decide +kernel
theorem dX9_two_78 : decode cX9_two 78 = .ok (.goto 4, 3) := by decide +kernel
theorem dX9_two_81 : decode cX9_two 81 = .ok (.iconst 0, 1) := by decide +kernel
theorem dX9_two_82 : decode cX9_two 82 = .ok (.ior, 1) := by decide +kernel
theorem dX9_two_83 : decode cX9_two 83 = .ok (.istore_n 3, 1) := by decide +kernel
theorem dX9_two_84 : decode cX9_two 84 = .ok (.iinc 4 1, 3) := by decide +kernel
theorem dX9_two_87 : decode cX9_two 87 = .ok (.goto (-40), 3) := by decide +kernel
theorem dX9_two_90 : decode cX9_two 90 = .ok (.iload_n 3, 1) := by decide +kernel
theorem dX9_two_91 : decode cX9_two 91 = .ok (.ireturn, 1) := by decide +kernel
theorem dX9_type_0 : decode cX9_type 0 = .ok (.iload_n 1, 1) := by decide +kernel
theorem dX9_type_1 : decode cX9_type 1 = .ok (.iconst 0, 1) := by decide +kernel
theorem dX9_type_2 : decode cX9_type 2 = .ok (.sipush 255, 3) := by decide +kernel
theorem dX9_type_5 : decode cX9_type 5 = .ok (.invokestatic 114, 3) := by decide +kernel
theorem dX9_type_8 : decode cX9_type 8 = .ok (.ifCond .ne 6, 3) := by decide +kernel
theorem dX9_type_11 : decode cX9_type 11 = .ok (.bipush (-2), 2) := by decide +kernel
theorem dX9_type_13 : decode cX9_type 13 = .ok (.ireturn, 1) := by decide +kernel
theorem dX9_type_14 : decode cX9_type 14 = .ok (.aload_n 0, 1) := by decide +kernel
theorem dX9_type_15 : decode cX9_type 15 = .ok (.getfield 132, 3) := by decide +kernel
theorem dX9_type_18 : decode cX9_type 18 = .ok (.bipush 40, 2) := by decide +kernel
theorem dX9_type_20 : decode cX9_type 20 = .ok (.if_icmp .ne 6, 3) := by decide +kernel
theorem dX9_type_23 : decode cX9_type 23 = .ok (.bipush (-4), 2) := by decide +kernel
theorem dX9_type_25 : decode cX9_type 25 = .ok (.ireturn, 1) := by decide +kernel
theorem dX9_type_26 : decode cX9_type 26 = .ok (.aload_n 0, 1) := by decide +kernel
theorem dX9_type_27 : decode cX9_type 27 = .ok (.getfield 44, 3) := by decide +kernel
theorem dX9_type_30 : decode cX9_type 30 = .ok (.aload_n 0, 1) := by decide +kernel
theorem dX9_type_31 : decode cX9_type 31 = .ok (.getfield 132, 3) := by decide +kernel
theorem dX9_type_34 : decode cX9_type 34 = .ok (.iload_n 1, 1) := by decide +kernel
theorem dX9_type_35 : decode cX9_type 35 = .ok (.iastore, 1) := by decide +kernel
theorem dX9_type_36 : decode cX9_type 36 = .ok (.aload_n 0, 1) := by decide +kernel
theorem dX9_type_37 : decode cX9_type 37 = .ok (.dup, 1) := by decide +kernel
theorem dX9_type_38 : decode cX9_type 38 = .ok (.getfield 132, 3) := by decide +kernel
theorem dX9_type_41 : decode cX9_type 41 = .ok (.iconst 1, 1) := by decide +kernel
theorem dX9_type_42 : decode cX9_type 42 = .ok (.iadd, 1) := by decide +kernel
theorem dX9_type_43 : decode cX9_type 43 = .ok (.putfield 132, 3) := by decide +kernel
theorem dX9_type_46 : decode cX9_type 46 = .ok (.aload_n 0, 1) := by decide +kernel
theorem dX9_type_47 : decode cX9_type 47 = .ok (.getfield 132, 3) := by decide +kernel
theorem dX9_type_50 : decode cX9_type 50 = .ok (.ireturn, 1) := by decide +kernel
theorem dX9_value_0 : decode cX9_value 0 = .ok (.iload_n 1, 1) := by decide +kernel
theorem dX9_value_1 : decode cX9_value 1 = .ok (.invokestatic 118, 3) := by decide +kernel
theorem dX9_value_4 : decode cX9_value 4 = .ok (.ifCond .eq 34, 3) := by decide +kernel
theorem dX9_value_7 : decode cX9_value 7 = .ok (.iload_n 2, 1) := by decide +kernel
theorem dX9_value_8 : decode cX9_value 8 = .ok (.iconst 0, 1) := by decide +kernel
theorem dX9_value_9 : decode cX9_value 9 = .ok (.aload_n 0, 1) := by decide +kernel
theorem dX9_value_10 : decode cX9_value 10 = .ok (.getfield 178, 3) := by decide +kernel
theorem dX9_value_13 : decode cX9_value 13 = .ok (.invokestatic 114, 3) := by decide +kernel
theorem dX9_value_16 : decode cX9_value 16 = .ok (.ifCond .eq 22, 3) := by decide +kernel
theorem dX9_value_19 : decode cX9_value 19 = .ok (.iload_n 3, 1) := by decide +kernel
theorem dX9_value_20 : decode cX9_value 20 = .ok (.iconst 0, 1) := by decide +kernel
theorem dX9_value_21 : decode cX9_value 21 = .ok (.iconst 4, 1) := by decide +kernel
theorem dX9_value_22 : decode cX9_value 22 = .ok (.invokestatic 114, 3) := by decide +kernel
theorem dX9_value_25 : decode cX9_value 25 = .ok (.ifCond .eq 13, 3) := by decide +kernel
theorem dX9_value_28 : decode cX9_value 28 = .ok (.iload 4, 2) := by decide +kernel
theorem dX9_value_30 : decode cX9_value 30 = .ok (.iconst 0, 1) := by decide +kernel
theorem dX9_value_31 : decode cX9_value 31 = .ok (.iconst 1, 1) := by decide +kernel
theorem dX9_value_32 : decode cX9_value 32 = .ok (.invokestatic 114, 3) := by decide +kernel
theorem dX9_value_35 : decode cX9_value 35 = .ok (.ifCond .ne 9, 3) := by decide +kernel
theorem dX9_value_38 : decode cX9_value 38 = .ok (.bipush (-2), 2) := by decide +kernel
theorem dX9_value_40 : decode cX9_value 40 = .ok (.invokestatic 211, 3) := by decide +kernel
theorem dX9_value_43 : decode cX9_value 43 = .ok (.lreturn, 1) := by decide +kernel
theorem dX9_value_44 : decode cX9_value 44 = .ok (.aload_n 0, 1) := by decide +kernel
theorem dX9_value_45 : decode cX9_value 45 = .ok (.invokevirtual 199, 3) := by decide +kernel
theorem dX9_value_48 : decode cX9_value 48 = .ok (.aload_n 0, 1) := by decide +kernel
theorem dX9_value_49 : decode cX9_value 49 = .ok (.getfield 65, 3) := by decide +kernel
theorem dX9_value_52 : decode cX9_value 52 = .ok (.iload_n 1, 1) := by decide +kernel
theorem dX9_value_53 : decode cX9_value 53 = .ok (.iload_n 2, 1) := by decide +kernel
theorem dX9_value_54 : decode cX9_value 54 = .ok (.iload_n 3, 1) := by decide +kernel
theorem dX9_value_55 : decode cX9_value 55 = .ok (.invokestatic 190, 3) := by decide +kernel
theorem dX9_value_58 : decode cX9_value 58 = .ok (.laload, 1) := by decide +kernel
theorem dX9_value_59 : decode cX9_value 59 = .ok (.aload_n 0, 1) := by decide +kernel
theorem dX9_value_60 : decode cX9_value 60 = .ok (.getfield 178, 3) := by decide +kernel
theorem dX9_value_63 : decode cX9_value 63 = .ok (.iload_n 2, 1) := by decide +kernel
theorem dX9_value_64 : decode cX9_value 64 = .ok (.isub, 1) := by decide +kernel
theorem dX9_value_65 : decode cX9_value 65 = .ok (.invokestatic 193, 3) := by decide +kernel
theorem dX9_value_68 : decode cX9_value 68 = .ok (.iload 4, 2) := by decide +kernel
theorem dX9_value_70 : decode cX9_value 70 = .ok (.invokestatic 214, 3) := by decide +kernel
theorem dX9_value_73 : decode cX9_value 73 = .ok (.lreturn, 1) := by decide +kernel
theorem dX9_wants_0 : decode cX9_wants 0 = .ok (.aload_n 0, 1) := by decide +kernel
theorem dX9_wants_1 : decode cX9_wants 1 = .ok (.invokevirtual 159, 3) := by decide +kernel
theorem dX9_wants_4 : decode cX9_wants 4 = .ok (.iconst (-1), 1) := by decide +kernel
theorem dX9_wants_5 : decode cX9_wants 5 = .ok (.if_icmp .eq 6, 3) := by decide +kernel
theorem dX9_wants_8 : decode cX9_wants 8 = .ok (.bipush (-3), 2) := by decide +kernel
theorem dX9_wants_10 : decode cX9_wants 10 = .ok (.ireturn, 1) := by decide +kernel
theorem dX9_wants_11 : decode cX9_wants 11 = .ok (.iconst 0, 1) := by decide +kernel
theorem dX9_wants_12 : decode cX9_wants 12 = .ok (.istore_n 1, 1) := by decide +kernel
theorem dX9_wants_13 : decode cX9_wants 13 = .ok (.iload_n 1, 1) := by decide +kernel
theorem dX9_wants_14 : decode cX9_wants 14 = .ok (.aload_n 0, 1) := by decide +kernel
theorem dX9_wants_15 : decode cX9_wants 15 = .ok (.getfield 153, 3) := by decide +kernel
theorem dX9_wants_18 : decode cX9_wants 18 = .ok (.if_icmp .ge 54, 3) := by decide +kernel
theorem dX9_wants_21 : decode cX9_wants 21 = .ok (.iconst 0, 1) := by decide +kernel
theorem dX9_wants_22 : decode cX9_wants 22 = .ok (.istore_n 2, 1) := by decide +kernel
theorem dX9_wants_23 : decode cX9_wants 23 = .ok (.iload_n 2, 1) := by decide +kernel
theorem dX9_wants_24 : decode cX9_wants 24 = .ok (.iconst 3, 1) := by decide +kernel
theorem dX9_wants_25 : decode cX9_wants 25 = .ok (.if_icmp .ge 41, 3) := by decide +kernel
theorem dX9_wants_28 : decode cX9_wants 28 = .ok (.aload_n 0, 1) := by decide +kernel
theorem dX9_wants_29 : decode cX9_wants 29 = .ok (.getfield 38, 3) := by decide +kernel
theorem dX9_wants_32 : decode cX9_wants 32 = .ok (.aload_n 0, 1) := by decide +kernel
theorem dX9_wants_33 : decode cX9_wants 33 = .ok (.getfield 47, 3) := by decide +kernel
theorem dX9_wants_36 : decode cX9_wants 36 = .ok (.iload_n 1, 1) := by decide +kernel
theorem dX9_wants_37 : decode cX9_wants 37 = .ok (.iaload, 1) := by decide +kernel
theorem dX9_wants_38 : decode cX9_wants 38 = .ok (.aload_n 0, 1) := by decide +kernel
theorem dX9_wants_39 : decode cX9_wants 39 = .ok (.getfield 50, 3) := by decide +kernel
theorem dX9_wants_42 : decode cX9_wants 42 = .ok (.iload_n 1, 1) := by decide +kernel
theorem dX9_wants_43 : decode cX9_wants 43 = .ok (.iaload, 1) := by decide +kernel
theorem dX9_wants_44 : decode cX9_wants 44 = .ok (.invokestatic 162, 3) := by decide +kernel
theorem dX9_wants_47 : decode cX9_wants 47 = .ok (.iload_n 2, 1) := by decide +kernel
theorem dX9_wants_48 : decode cX9_wants 48 = .ok (.iadd, 1) := by decide +kernel
theorem dX9_wants_49 : decode cX9_wants 49 = .ok (.aload_n 0, 1) := by decide +kernel
theorem dX9_wants_50 : decode cX9_wants 50 = .ok (.getfield 53, 3) := by decide +kernel
theorem dX9_wants_53 : decode cX9_wants 53 = .ok (.iconst 3, 1) := by decide +kernel
theorem dX9_wants_54 : decode cX9_wants 54 = .ok (.iload_n 1, 1) := by decide +kernel
theorem dX9_wants_55 : decode cX9_wants 55 = .ok (.imul, 1) := by decide +kernel
theorem dX9_wants_56 : decode cX9_wants 56 = .ok (.iload_n 2, 1) := by decide +kernel
theorem dX9_wants_57 : decode cX9_wants 57 = .ok (.iadd, 1) := by decide +kernel
theorem dX9_wants_58 : decode cX9_wants 58 = .ok (.iaload, 1) := by decide +kernel
theorem dX9_wants_59 : decode cX9_wants 59 = .ok (.iastore, 1) := by decide +kernel
theorem dX9_wants_60 : decode cX9_wants 60 = .ok (.iinc 2 1, 3) := by decide +kernel
theorem dX9_wants_63 : decode cX9_wants 63 = .ok (.goto (-40), 3) := by decide +kernel
theorem dX9_wants_66 : decode cX9_wants 66 = .ok (.iinc 1 1, 3) := by decide +kernel
theorem dX9_wants_69 : decode cX9_wants 69 = .ok (.goto (-56), 3) := by decide +kernel
theorem dX9_wants_72 : decode cX9_wants 72 = .ok (.aload_n 0, 1) := by decide +kernel
theorem dX9_wants_73 : decode cX9_wants 73 = .ok (.iconst 0, 1) := by decide +kernel
theorem dX9_wants_74 : decode cX9_wants 74 = .ok (.putfield 132, 3) := by decide +kernel
theorem dX9_wants_77 : decode cX9_wants 77 = .ok (.aload_n 0, 1) := by decide +kernel
theorem dX9_wants_78 : decode cX9_wants 78 = .ok (.getfield 153, 3) := by decide +kernel
theorem dX9_wants_81 : decode cX9_wants 81 = .ok (.ireturn, 1) := by decide +kernel
theorem dX9_way_0 : decode cX9_way 0 = .ok (.iload_n 1, 1) := by decide +kernel
theorem dX9_way_1 : decode cX9_way 1 = .ok (.invokestatic 126, 3) := by decide +kernel
theorem dX9_way_4 : decode cX9_way 4 = .ok (.ifCond .eq 10, 3) := by decide +kernel
theorem dX9_way_7 : decode cX9_way 7 = .ok (.iload_n 2, 1) := by decide +kernel
theorem dX9_way_8 : decode cX9_way 8 = .ok (.invokestatic 126, 3) := by decide +kernel
theorem dX9_way_11 : decode cX9_way 11 = .ok (.ifCond .ne 6, 3) := by decide +kernel
theorem dX9_way_14 : decode cX9_way 14 = .ok (.bipush (-2), 2) := by decide +kernel
theorem dX9_way_16 : decode cX9_way 16 = .ok (.ireturn, 1) := by decide +kernel
theorem dX9_way_17 : decode cX9_way 17 = .ok (.aload_n 0, 1) := by decide +kernel
theorem dX9_way_18 : decode cX9_way 18 = .ok (.invokevirtual 129, 3) := by decide +kernel
theorem dX9_way_21 : decode cX9_way 21 = .ok (.aload_n 0, 1) := by decide +kernel
theorem dX9_way_22 : decode cX9_way 22 = .ok (.getfield 25, 3) := by decide +kernel
theorem dX9_way_25 : decode cX9_way 25 = .ok (.bipush 8, 2) := by decide +kernel
theorem dX9_way_27 : decode cX9_way 27 = .ok (.iload_n 1, 1) := by decide +kernel
theorem dX9_way_28 : decode cX9_way 28 = .ok (.imul, 1) := by decide +kernel
theorem dX9_way_29 : decode cX9_way 29 = .ok (.iload_n 2, 1) := by decide +kernel
theorem dX9_way_30 : decode cX9_way 30 = .ok (.iadd, 1) := by decide +kernel
theorem dX9_way_31 : decode cX9_way 31 = .ok (.iaload, 1) := by decide +kernel
theorem dX9_way_32 : decode cX9_way 32 = .ok (.ireturn, 1) := by decide +kernel
theorem dX9_wipe_0 : decode cX9_wipe 0 = .ok (.aload_n 0, 1) := by decide +kernel
theorem dX9_wipe_1 : decode cX9_wipe 1 = .ok (.getfield 132, 3) := by decide +kernel
theorem dX9_wipe_4 : decode cX9_wipe 4 = .ok (.istore_n 1, 1) := by decide +kernel
theorem dX9_wipe_5 : decode cX9_wipe 5 = .ok (.aload_n 0, 1) := by decide +kernel
theorem dX9_wipe_6 : decode cX9_wipe 6 = .ok (.iconst 0, 1) := by decide +kernel
theorem dX9_wipe_7 : decode cX9_wipe 7 = .ok (.putfield 132, 3) := by decide +kernel
theorem dX9_wipe_10 : decode cX9_wipe 10 = .ok (.iload_n 1, 1) := by decide +kernel
theorem dX9_wipe_11 : decode cX9_wipe 11 = .ok (.ireturn, 1) := by decide +kernel
theorem dX9_write_0 : decode cX9_write 0 = .ok (.iload_n 1, 1) := by decide +kernel
theorem dX9_write_1 : decode cX9_write 1 = .ok (.invokestatic 165, 3) := by decide +kernel
theorem dX9_write_4 : decode cX9_write 4 = .ok (.ifCond .ne 6, 3) := by decide +kernel
theorem dX9_write_7 : decode cX9_write 7 = .ok (.bipush (-2), 2) := by decide +kernel
theorem dX9_write_9 : decode cX9_write 9 = .ok (.ireturn, 1) := by decide +kernel
theorem dX9_write_10 : decode cX9_write 10 = .ok (.aload_n 0, 1) := by decide +kernel
theorem dX9_write_11 : decode cX9_write 11 = .ok (.getfield 96, 3) := by decide +kernel
theorem dX9_write_14 : decode cX9_write 14 = .ok (.iload_n 1, 1) := by decide +kernel
theorem dX9_write_15 : decode cX9_write 15 = .ok (.baload, 1) := by decide +kernel
theorem dX9_write_16 : decode cX9_write 16 = .ok (.ifCond .ne 9, 3) := by decide +kernel
theorem dX9_write_19 : decode cX9_write 19 = .ok (.aload_n 0, 1) := by decide +kernel
theorem dX9_write_20 : decode cX9_write 20 = .ok (.iconst 1, 1) := by decide +kernel
theorem dX9_write_21 : decode cX9_write 21 = .ok (.invokevirtual 171, 3) := by decide +kernel
theorem dX9_write_24 : decode cX9_write 24 = .ok (.ireturn, 1) := by decide +kernel
theorem dX9_write_25 : decode cX9_write 25 = .ok (.aload_n 0, 1) := by decide +kernel
theorem dX9_write_26 : decode cX9_write 26 = .ok (.invokevirtual 199, 3) := by decide +kernel
theorem dX9_write_29 : decode cX9_write 29 = .ok (.aload_n 0, 1) := by decide +kernel
theorem dX9_write_30 : decode cX9_write 30 = .ok (.iconst (-1), 1) := by decide +kernel
theorem dX9_write_31 : decode cX9_write 31 = .ok (.invokevirtual 232, 3) := by decide +kernel
theorem dX9_write_34 : decode cX9_write 34 = .ok (.iconst 0, 1) := by decide +kernel
theorem dX9_write_35 : decode cX9_write 35 = .ok (.istore_n 2, 1) := by decide +kernel
theorem dX9_write_36 : decode cX9_write 36 = .ok (.iload_n 2, 1) := by decide +kernel
theorem dX9_write_37 : decode cX9_write 37 = .ok (.bipush 6, 2) := by decide +kernel
theorem dX9_write_39 : decode cX9_write 39 = .ok (.if_icmp .ge 31, 3) := by decide +kernel
theorem dX9_write_42 : decode cX9_write 42 = .ok (.iload_n 2, 1) := by decide +kernel
theorem dX9_write_43 : decode cX9_write 43 = .ok (.aload_n 0, 1) := by decide +kernel
theorem dX9_write_44 : decode cX9_write 44 = .ok (.getfield 103, 3) := by decide +kernel
theorem dX9_write_47 : decode cX9_write 47 = .ok (.iload_n 1, 1) := by decide +kernel
theorem dX9_write_48 : decode cX9_write 48 = .ok (.iaload, 1) := by decide +kernel
theorem dX9_write_49 : decode cX9_write 49 = .ok (.if_icmp .ge 21, 3) := by decide +kernel
theorem dX9_write_52 : decode cX9_write 52 = .ok (.aload_n 0, 1) := by decide +kernel
theorem dX9_write_53 : decode cX9_write 53 = .ok (.iload_n 1, 1) := by decide +kernel
theorem dX9_write_54 : decode cX9_write 54 = .ok (.iload_n 2, 1) := by decide +kernel
theorem dX9_write_55 : decode cX9_write 55 = .ok (.aload_n 0, 1) := by decide +kernel
theorem dX9_write_56 : decode cX9_write 56 = .ok (.getfield 75, 3) := by decide +kernel
theorem dX9_write_59 : decode cX9_write 59 = .ok (.iload_n 2, 1) := by decide +kernel
theorem dX9_write_60 : decode cX9_write 60 = .ok (.iaload, 1) := by decide +kernel
theorem dX9_write_61 : decode cX9_write 61 = .ok (.invokevirtual 305, 3) := by decide +kernel
theorem dX9_write_64 : decode cX9_write 64 = .ok (.iinc 2 1, 3) := by decide +kernel
theorem dX9_write_67 : decode cX9_write 67 = .ok (.goto (-31), 3) := by decide +kernel
theorem dX9_write_70 : decode cX9_write 70 = .ok (.iload_n 2, 1) := by decide +kernel
theorem dX9_write_71 : decode cX9_write 71 = .ok (.ireturn, 1) := by decide +kernel
theorem dX1_init_0 : decode cX1_init 0 = .ok (.aload_n 0, 1) := by decide +kernel
theorem dX1_init_1 : decode cX1_init 1 = .ok (.invokespecial 3, 3) := by decide +kernel
theorem dX1_init_4 : decode cX1_init 4 = .ok (.aload_n 0, 1) := by decide +kernel
theorem dX1_init_5 : decode cX1_init 5 = .ok (.bipush 6, 2) := by decide +kernel
theorem dX1_init_7 : decode cX1_init 7 = .ok (.bipush 6, 2) := by decide +kernel
theorem dX1_init_9 : decode cX1_init 9 = .ok (.multianewarray 9 2, 4) := by decide +kernel
theorem dX1_init_13 : decode cX1_init 13 = .ok (.putfield 11, 3) := by decide +kernel
theorem dX1_init_16 : decode cX1_init 16 = .ok (.iconst 0, 1) := by decide +kernel
theorem dX1_init_17 : decode cX1_init 17 = .ok (.istore_n 1, 1) := by decide +kernel
theorem dX1_init_18 : decode cX1_init 18 = .ok (.iload_n 1, 1) := by decide +kernel
theorem dX1_init_19 : decode cX1_init 19 = .ok (.bipush 6, 2) := by decide +kernel
theorem dX1_init_21 : decode cX1_init 21 = .ok (.if_icmp .ge 53, 3) := by decide +kernel
theorem dX1_init_24 : decode cX1_init 24 = .ok (.aload_n 0, 1) := by decide +kernel
theorem dX1_init_25 : decode cX1_init 25 = .ok (.getfield 11, 3) := by decide +kernel
theorem dX1_init_28 : decode cX1_init 28 = .ok (.iload_n 1, 1) := by decide +kernel
theorem dX1_init_29 : decode cX1_init 29 = .ok (.aaload, 1) := by decide +kernel
theorem dX1_init_30 : decode cX1_init 30 = .ok (.iconst 0, 1) := by decide +kernel
theorem dX1_init_31 : decode cX1_init 31 = .ok (.iconst 1, 1) := by decide +kernel
theorem dX1_init_32 : decode cX1_init 32 = .ok (.iastore, 1) := by decide +kernel
theorem dX1_init_33 : decode cX1_init 33 = .ok (.aload_n 0, 1) := by decide +kernel
theorem dX1_init_34 : decode cX1_init 34 = .ok (.getfield 11, 3) := by decide +kernel
theorem dX1_init_37 : decode cX1_init 37 = .ok (.iload_n 1, 1) := by decide +kernel
theorem dX1_init_38 : decode cX1_init 38 = .ok (.aaload, 1) := by decide +kernel
theorem dX1_init_39 : decode cX1_init 39 = .ok (.iconst 1, 1) := by decide +kernel
theorem dX1_init_40 : decode cX1_init 40 = .ok (.iconst 1, 1) := by decide +kernel
theorem dX1_init_41 : decode cX1_init 41 = .ok (.iastore, 1) := by decide +kernel
theorem dX1_init_42 : decode cX1_init 42 = .ok (.iconst 0, 1) := by decide +kernel
theorem dX1_init_43 : decode cX1_init 43 = .ok (.istore_n 2, 1) := by decide +kernel
theorem dX1_init_44 : decode cX1_init 44 = .ok (.iload_n 2, 1) := by decide +kernel
theorem dX1_init_45 : decode cX1_init 45 = .ok (.iconst 3, 1) := by decide +kernel
theorem dX1_init_46 : decode cX1_init 46 = .ok (.if_icmp .ge 22, 3) := by decide +kernel
theorem dX1_init_49 : decode cX1_init 49 = .ok (.aload_n 0, 1) := by decide +kernel
theorem dX1_init_50 : decode cX1_init 50 = .ok (.getfield 11, 3) := by decide +kernel
theorem dX1_init_53 : decode cX1_init 53 = .ok (.iload_n 1, 1) := by decide +kernel
theorem dX1_init_54 : decode cX1_init 54 = .ok (.aaload, 1) := by decide +kernel
theorem dX1_init_55 : decode cX1_init 55 = .ok (.iconst 3, 1) := by decide +kernel
theorem dX1_init_56 : decode cX1_init 56 = .ok (.iload_n 2, 1) := by decide +kernel
theorem dX1_init_57 : decode cX1_init 57 = .ok (.iadd, 1) := by decide +kernel
theorem dX1_init_58 : decode cX1_init 58 = .ok (.iconst 2, 1) := by decide +kernel
theorem dX1_init_59 : decode cX1_init 59 = .ok (.iload_n 2, 1) := by decide +kernel
theorem dX1_init_60 : decode cX1_init 60 = .ok (.iadd, 1) := by decide +kernel
theorem dX1_init_61 : decode cX1_init 61 = .ok (.iastore, 1) := by decide +kernel
theorem dX1_init_62 : decode cX1_init 62 = .ok (.iinc 2 1, 3) := by decide +kernel
theorem dX1_init_65 : decode cX1_init 65 = .ok (.goto (-21), 3) := by decide +kernel
theorem dX1_init_68 : decode cX1_init 68 = .ok (.iinc 1 1, 3) := by decide +kernel
theorem dX1_init_71 : decode cX1_init 71 = .ok (.goto (-53), 3) := by decide +kernel
theorem dX1_init_74 : decode cX1_init 74 = .ok (.return_, 1) := by decide +kernel
theorem dX2_init_0 : decode cX2_init 0 = .ok (.aload_n 0, 1) := by decide +kernel
theorem dX2_init_1 : decode cX2_init 1 = .ok (.invokespecial 3, 3) := by decide +kernel
theorem dX2_init_4 : decode cX2_init 4 = .ok (.aload_n 0, 1) := by decide +kernel
theorem dX2_init_5 : decode cX2_init 5 = .ok (.bipush 8, 2) := by decide +kernel
theorem dX2_init_7 : decode cX2_init 7 = .ok (.bipush 8, 2) := by decide +kernel
theorem dX2_init_9 : decode cX2_init 9 = .ok (.multianewarray 9 2, 4) := by decide +kernel
theorem dX2_init_13 : decode cX2_init 13 = .ok (.putfield 11, 3) := by decide +kernel
theorem dX2_init_16 : decode cX2_init 16 = .ok (.aload_n 0, 1) := by decide +kernel
theorem dX2_init_17 : decode cX2_init 17 = .ok (.bipush 8, 2) := by decide +kernel
theorem dX2_init_19 : decode cX2_init 19 = .ok (.bipush 8, 2) := by decide +kernel
theorem dX2_init_21 : decode cX2_init 21 = .ok (.multianewarray 9 2, 4) := by decide +kernel
theorem dX2_init_25 : decode cX2_init 25 = .ok (.putfield 16, 3) := by decide +kernel
theorem dX2_init_28 : decode cX2_init 28 = .ok (.aload_n 0, 1) := by decide +kernel
theorem dX2_init_29 : decode cX2_init 29 = .ok (.invokevirtual 19, 3) := by decide +kernel
theorem dX2_init_32 : decode cX2_init 32 = .ok (.return_, 1) := by decide +kernel
theorem dX4_init_0 : decode cX4_init 0 = .ok (.aload_n 0, 1) := by decide +kernel
theorem dX4_init_1 : decode cX4_init 1 = .ok (.invokespecial 3, 3) := by decide +kernel
theorem dX4_init_4 : decode cX4_init 4 = .ok (.aload_n 0, 1) := by decide +kernel
theorem dX4_init_5 : decode cX4_init 5 = .ok (.bipush 48, 2) := by decide +kernel
theorem dX4_init_7 : decode cX4_init 7 = .ok (.iconst 3, 1) := by decide +kernel
theorem dX4_init_8 : decode cX4_init 8 = .ok (.multianewarray 9 2, 4) := by decide +kernel
theorem dX4_init_12 : decode cX4_init 12 = .ok (.putfield 11, 3) := by decide +kernel
theorem dX4_init_15 : decode cX4_init 15 = .ok (.aload_n 0, 1) := by decide +kernel
theorem dX4_init_16 : decode cX4_init 16 = .ok (.bipush 6, 2) := by decide +kernel
theorem dX4_init_18 : decode cX4_init 18 = .ok (.newarray .int, 2) := by decide +kernel
theorem dX4_init_20 : decode cX4_init 20 = .ok (.putfield 16, 3) := by decide +kernel
theorem dX4_init_23 : decode cX4_init 23 = .ok (.return_, 1) := by decide +kernel
theorem dX3_init_0 : decode cX3_init 0 = .ok (.aload_n 0, 1) := by decide +kernel
theorem dX3_init_1 : decode cX3_init 1 = .ok (.invokespecial 3, 3) := by decide +kernel
theorem dX3_init_4 : decode cX3_init 4 = .ok (.aload_n 0, 1) := by decide +kernel
theorem dX3_init_5 : decode cX3_init 5 = .ok (.bipush 40, 2) := by decide +kernel
theorem dX3_init_7 : decode cX3_init 7 = .ok (.newarray .int, 2) := by decide +kernel
theorem dX3_init_9 : decode cX3_init 9 = .ok (.putfield 9, 3) := by decide +kernel
theorem dX3_init_12 : decode cX3_init 12 = .ok (.aload_n 0, 1) := by decide +kernel
theorem dX3_init_13 : decode cX3_init 13 = .ok (.iconst 3, 1) := by decide +kernel
theorem dX3_init_14 : decode cX3_init 14 = .ok (.newarray .int, 2) := by decide +kernel
theorem dX3_init_16 : decode cX3_init 16 = .ok (.putfield 15, 3) := by decide +kernel
theorem dX3_init_19 : decode cX3_init 19 = .ok (.aload_n 0, 1) := by decide +kernel
theorem dX3_init_20 : decode cX3_init 20 = .ok (.iconst 0, 1) := by decide +kernel
theorem dX3_init_21 : decode cX3_init 21 = .ok (.putfield 18, 3) := by decide +kernel
theorem dX3_init_24 : decode cX3_init 24 = .ok (.aload_n 0, 1) := by decide +kernel
theorem dX3_init_25 : decode cX3_init 25 = .ok (.iconst 0, 1) := by decide +kernel
theorem dX3_init_26 : decode cX3_init 26 = .ok (.putfield 22, 3) := by decide +kernel
theorem dX3_init_29 : decode cX3_init 29 = .ok (.aload_n 0, 1) := by decide +kernel
theorem dX3_init_30 : decode cX3_init 30 = .ok (.iconst 0, 1) := by decide +kernel
theorem dX3_init_31 : decode cX3_init 31 = .ok (.putfield 25, 3) := by decide +kernel
theorem dX3_init_34 : decode cX3_init 34 = .ok (.aload_n 0, 1) := by decide +kernel
theorem dX3_init_35 : decode cX3_init 35 = .ok (.iconst 0, 1) := by decide +kernel
theorem dX3_init_36 : decode cX3_init 36 = .ok (.putfield 28, 3) := by decide +kernel
theorem dX3_init_39 : decode cX3_init 39 = .ok (.return_, 1) := by decide +kernel
theorem dX7_init_0 : decode cX7_init 0 = .ok (.aload_n 0, 1) := by decide +kernel
theorem dX7_init_1 : decode cX7_init 1 = .ok (.invokespecial 3, 3) := by decide +kernel
theorem dX7_init_4 : decode cX7_init 4 = .ok (.aload_n 0, 1) := by decide +kernel
theorem dX7_init_5 : decode cX7_init 5 = .ok (.iconst 4, 1) := by decide +kernel
theorem dX7_init_6 : decode cX7_init 6 = .ok (.bipush 40, 2) := by decide +kernel
theorem dX7_init_8 : decode cX7_init 8 = .ok (.multianewarray 9 2, 4) := by decide +kernel
theorem dX7_init_12 : decode cX7_init 12 = .ok (.putfield 11, 3) := by decide +kernel
theorem dX7_init_15 : decode cX7_init 15 = .ok (.aload_n 0, 1) := by decide +kernel
theorem dX7_init_16 : decode cX7_init 16 = .ok (.iconst 4, 1) := by decide +kernel
theorem dX7_init_17 : decode cX7_init 17 = .ok (.newarray .int, 2) := by decide +kernel
theorem dX7_init_19 : decode cX7_init 19 = .ok (.putfield 16, 3) := by decide +kernel
theorem dX7_init_22 : decode cX7_init 22 = .ok (.aload_n 0, 1) := by decide +kernel
theorem dX7_init_23 : decode cX7_init 23 = .ok (.iconst 4, 1) := by decide +kernel
theorem dX7_init_24 : decode cX7_init 24 = .ok (.newarray .int, 2) := by decide +kernel
theorem dX7_init_26 : decode cX7_init 26 = .ok (.putfield 20, 3) := by decide +kernel
theorem dX7_init_29 : decode cX7_init 29 = .ok (.aload_n 0, 1) := by decide +kernel
theorem dX7_init_30 : decode cX7_init 30 = .ok (.iconst 0, 1) := by decide +kernel
theorem dX7_init_31 : decode cX7_init 31 = .ok (.putfield 23, 3) := by decide +kernel
theorem dX7_init_34 : decode cX7_init 34 = .ok (.iconst 0, 1) := by decide +kernel
theorem dX7_init_35 : decode cX7_init 35 = .ok (.istore_n 1, 1) := by decide +kernel
theorem dX7_init_36 : decode cX7_init 36 = .ok (.iload_n 1, 1) := by decide +kernel
theorem dX7_init_37 : decode cX7_init 37 = .ok (.iconst 4, 1) := by decide +kernel
theorem dX7_init_38 : decode cX7_init 38 = .ok (.if_icmp .ge 16, 3) := by decide +kernel
theorem dX7_init_41 : decode cX7_init 41 = .ok (.aload_n 0, 1) := by decide +kernel
theorem dX7_init_42 : decode cX7_init 42 = .ok (.getfield 20, 3) := by decide +kernel
theorem dX7_init_45 : decode cX7_init 45 = .ok (.iload_n 1, 1) := by decide +kernel
theorem dX7_init_46 : decode cX7_init 46 = .ok (.iconst (-1), 1) := by decide +kernel
theorem dX7_init_47 : decode cX7_init 47 = .ok (.iastore, 1) := by decide +kernel
theorem dX7_init_48 : decode cX7_init 48 = .ok (.iinc 1 1, 3) := by decide +kernel
theorem dX7_init_51 : decode cX7_init 51 = .ok (.goto (-15), 3) := by decide +kernel
theorem dX7_init_54 : decode cX7_init 54 = .ok (.return_, 1) := by decide +kernel
theorem dX0_init_0 : decode cX0_init 0 = .ok (.aload_n 0, 1) := by decide +kernel
theorem dX0_init_1 : decode cX0_init 1 = .ok (.invokespecial 3, 3) := by decide +kernel
theorem dX0_init_4 : decode cX0_init 4 = .ok (.aload_n 0, 1) := by decide +kernel
theorem dX0_init_5 : decode cX0_init 5 = .ok (.bipush 8, 2) := by decide +kernel
theorem dX0_init_7 : decode cX0_init 7 = .ok (.bipush 30, 2) := by decide +kernel
theorem dX0_init_9 : decode cX0_init 9 = .ok (.multianewarray 9 2, 4) := by decide +kernel
theorem dX0_init_13 : decode cX0_init 13 = .ok (.putfield 11, 3) := by decide +kernel
theorem dX0_init_16 : decode cX0_init 16 = .ok (.aload_n 0, 1) := by decide +kernel
theorem dX0_init_17 : decode cX0_init 17 = .ok (.iconst 5, 1) := by decide +kernel
theorem dX0_init_18 : decode cX0_init 18 = .ok (.newarray .long, 2) := by decide +kernel
theorem dX0_init_20 : decode cX0_init 20 = .ok (.putfield 16, 3) := by decide +kernel
theorem dX0_init_23 : decode cX0_init 23 = .ok (.aload_n 0, 1) := by decide +kernel
theorem dX0_init_24 : decode cX0_init 24 = .ok (.aload_n 1, 1) := by decide +kernel
theorem dX0_init_25 : decode cX0_init 25 = .ok (.putfield 20, 3) := by decide +kernel
theorem dX0_init_28 : decode cX0_init 28 = .ok (.aload_n 0, 1) := by decide +kernel
theorem dX0_init_29 : decode cX0_init 29 = .ok (.aload_n 2, 1) := by decide +kernel
theorem dX0_init_30 : decode cX0_init 30 = .ok (.putfield 24, 3) := by decide +kernel
theorem dX0_init_33 : decode cX0_init 33 = .ok (.return_, 1) := by decide +kernel
theorem dX5_init_0 : decode cX5_init 0 = .ok (.aload_n 0, 1) := by decide +kernel
theorem dX5_init_1 : decode cX5_init 1 = .ok (.invokespecial 3, 3) := by decide +kernel
theorem dX5_init_4 : decode cX5_init 4 = .ok (.aload_n 0, 1) := by decide +kernel
theorem dX5_init_5 : decode cX5_init 5 = .ok (.bipush 6, 2) := by decide +kernel
theorem dX5_init_7 : decode cX5_init 7 = .ok (.iconst 5, 1) := by decide +kernel
theorem dX5_init_8 : decode cX5_init 8 = .ok (.multianewarray 9 2, 4) := by decide +kernel
theorem dX5_init_12 : decode cX5_init 12 = .ok (.putfield 11, 3) := by decide +kernel
theorem dX5_init_15 : decode cX5_init 15 = .ok (.aload_n 0, 1) := by decide +kernel
theorem dX5_init_16 : decode cX5_init 16 = .ok (.bipush 6, 2) := by decide +kernel
theorem dX5_init_18 : decode cX5_init 18 = .ok (.newarray .int, 2) := by decide +kernel
theorem dX5_init_20 : decode cX5_init 20 = .ok (.putfield 16, 3) := by decide +kernel
theorem dX5_init_23 : decode cX5_init 23 = .ok (.aload_n 0, 1) := by decide +kernel
theorem dX5_init_24 : decode cX5_init 24 = .ok (.bipush 7, 2) := by decide +kernel
theorem dX5_init_26 : decode cX5_init 26 = .ok (.bipush 101, 2) := by decide +kernel
theorem dX5_init_28 : decode cX5_init 28 = .ok (.multianewarray 9 2, 4) := by decide +kernel
theorem dX5_init_32 : decode cX5_init 32 = .ok (.putfield 20, 3) := by decide +kernel
theorem dX5_init_35 : decode cX5_init 35 = .ok (.aload_n 0, 1) := by decide +kernel
theorem dX5_init_36 : decode cX5_init 36 = .ok (.bipush 24, 2) := by decide +kernel
theorem dX5_init_38 : decode cX5_init 38 = .ok (.newarray .boolean, 2) := by decide +kernel
theorem dX5_init_40 : decode cX5_init 40 = .ok (.putfield 23, 3) := by decide +kernel
theorem dX5_init_43 : decode cX5_init 43 = .ok (.aload_n 0, 1) := by decide +kernel
theorem dX5_init_44 : decode cX5_init 44 = .ok (.bipush 6, 2) := by decide +kernel
theorem dX5_init_46 : decode cX5_init 46 = .ok (.newarray .int, 2) := by decide +kernel
theorem dX5_init_48 : decode cX5_init 48 = .ok (.putfield 27, 3) := by decide +kernel
theorem dX5_init_51 : decode cX5_init 51 = .ok (.aload_n 0, 1) := by decide +kernel
theorem dX5_init_52 : decode cX5_init 52 = .ok (.bipush 6, 2) := by decide +kernel
theorem dX5_init_54 : decode cX5_init 54 = .ok (.newarray .int, 2) := by decide +kernel
theorem dX5_init_56 : decode cX5_init 56 = .ok (.putfield 30, 3) := by decide +kernel
theorem dX5_init_59 : decode cX5_init 59 = .ok (.aload_n 0, 1) := by decide +kernel
theorem dX5_init_60 : decode cX5_init 60 = .ok (.lconst 0, 1) := by decide +kernel
theorem dX5_init_61 : decode cX5_init 61 = .ok (.putfield 33, 3) := by decide +kernel
theorem dX5_init_64 : decode cX5_init 64 = .ok (.aload_n 0, 1) := by decide +kernel
theorem dX5_init_65 : decode cX5_init 65 = .ok (.lconst 1, 1) := by decide +kernel
theorem dX5_init_66 : decode cX5_init 66 = .ok (.putfield 37, 3) := by decide +kernel
theorem dX5_init_69 : decode cX5_init 69 = .ok (.aload_n 0, 1) := by decide +kernel
theorem dX5_init_70 : decode cX5_init 70 = .ok (.aload_n 1, 1) := by decide +kernel
theorem dX5_init_71 : decode cX5_init 71 = .ok (.putfield 40, 3) := by decide +kernel
theorem dX5_init_74 : decode cX5_init 74 = .ok (.return_, 1) := by decide +kernel
theorem dX6_init_0 : decode cX6_init 0 = .ok (.aload_n 0, 1) := by decide +kernel
theorem dX6_init_1 : decode cX6_init 1 = .ok (.invokespecial 3, 3) := by decide +kernel
theorem dX6_init_4 : decode cX6_init 4 = .ok (.aload_n 0, 1) := by decide +kernel
theorem dX6_init_5 : decode cX6_init 5 = .ok (.sipush 128, 3) := by decide +kernel
theorem dX6_init_8 : decode cX6_init 8 = .ok (.newarray .long, 2) := by decide +kernel
theorem dX6_init_10 : decode cX6_init 10 = .ok (.putfield 9, 3) := by decide +kernel
theorem dX6_init_13 : decode cX6_init 13 = .ok (.aload_n 0, 1) := by decide +kernel
theorem dX6_init_14 : decode cX6_init 14 = .ok (.sipush 128, 3) := by decide +kernel
theorem dX6_init_17 : decode cX6_init 17 = .ok (.newarray .int, 2) := by decide +kernel
theorem dX6_init_19 : decode cX6_init 19 = .ok (.putfield 15, 3) := by decide +kernel
theorem dX6_init_22 : decode cX6_init 22 = .ok (.aload_n 0, 1) := by decide +kernel
theorem dX6_init_23 : decode cX6_init 23 = .ok (.iconst 0, 1) := by decide +kernel
theorem dX6_init_24 : decode cX6_init 24 = .ok (.putfield 19, 3) := by decide +kernel
theorem dX6_init_27 : decode cX6_init 27 = .ok (.aload_n 0, 1) := by decide +kernel
theorem dX6_init_28 : decode cX6_init 28 = .ok (.iconst 0, 1) := by decide +kernel
theorem dX6_init_29 : decode cX6_init 29 = .ok (.putfield 23, 3) := by decide +kernel
theorem dX6_init_32 : decode cX6_init 32 = .ok (.aload_n 0, 1) := by decide +kernel
theorem dX6_init_33 : decode cX6_init 33 = .ok (.iconst 0, 1) := by decide +kernel
theorem dX6_init_34 : decode cX6_init 34 = .ok (.putfield 26, 3) := by decide +kernel
theorem dX6_init_37 : decode cX6_init 37 = .ok (.aload_n 0, 1) := by decide +kernel
theorem dX6_init_38 : decode cX6_init 38 = .ok (.iconst 0, 1) := by decide +kernel
theorem dX6_init_39 : decode cX6_init 39 = .ok (.putfield 30, 3) := by decide +kernel
theorem dX6_init_42 : decode cX6_init 42 = .ok (.aload_n 0, 1) := by decide +kernel
theorem dX6_init_43 : decode cX6_init 43 = .ok (.iconst 0, 1) := by decide +kernel
theorem dX6_init_44 : decode cX6_init 44 = .ok (.putfield 33, 3) := by decide +kernel
theorem dX6_init_47 : decode cX6_init 47 = .ok (.aload_n 0, 1) := by decide +kernel
theorem dX6_init_48 : decode cX6_init 48 = .ok (.iconst 0, 1) := by decide +kernel
theorem dX6_init_49 : decode cX6_init 49 = .ok (.putfield 36, 3) := by decide +kernel
theorem dX6_init_52 : decode cX6_init 52 = .ok (.aload_n 0, 1) := by decide +kernel
theorem dX6_init_53 : decode cX6_init 53 = .ok (.iconst 0, 1) := by decide +kernel
theorem dX6_init_54 : decode cX6_init 54 = .ok (.putfield 39, 3) := by decide +kernel
theorem dX6_init_57 : decode cX6_init 57 = .ok (.aload_n 0, 1) := by decide +kernel
theorem dX6_init_58 : decode cX6_init 58 = .ok (.iconst 0, 1) := by decide +kernel
theorem dX6_init_59 : decode cX6_init 59 = .ok (.putfield 42, 3) := by decide +kernel
theorem dX6_init_62 : decode cX6_init 62 = .ok (.aload_n 0, 1) := by decide +kernel
theorem dX6_init_63 : decode cX6_init 63 = .ok (.lconst 0, 1) := by decide +kernel
theorem dX6_init_64 : decode cX6_init 64 = .ok (.putfield 45, 3) := by decide +kernel
theorem dX6_init_67 : decode cX6_init 67 = .ok (.aload_n 0, 1) := by decide +kernel
theorem dX6_init_68 : decode cX6_init 68 = .ok (.aload_n 1, 1) := by decide +kernel
theorem dX6_init_69 : decode cX6_init 69 = .ok (.putfield 49, 3) := by decide +kernel
theorem dX6_init_72 : decode cX6_init 72 = .ok (.aload_n 0, 1) := by decide +kernel
theorem dX6_init_73 : decode cX6_init 73 = .ok (.aload_n 2, 1) := by decide +kernel
theorem dX6_init_74 : decode cX6_init 74 = .ok (.putfield 53, 3) := by decide +kernel
theorem dX6_init_77 : decode cX6_init 77 = .ok (.aload_n 0, 1) := by decide +kernel
theorem dX6_init_78 : decode cX6_init 78 = .ok (.aload_n 3, 1) := by decide +kernel
theorem dX6_init_79 : decode cX6_init 79 = .ok (.putfield 57, 3) := by decide +kernel
theorem dX6_init_82 : decode cX6_init 82 = .ok (.aload_n 0, 1) := by decide +kernel
theorem dX6_init_83 : decode cX6_init 83 = .ok (.aload 4, 2) := by decide +kernel
theorem dX6_init_85 : decode cX6_init 85 = .ok (.putfield 61, 3) := by decide +kernel
theorem dX6_init_88 : decode cX6_init 88 = .ok (.return_, 1) := by decide +kernel
theorem dX8_init_0 : decode cX8_init 0 = .ok (.aload_n 0, 1) := by decide +kernel
theorem dX8_init_1 : decode cX8_init 1 = .ok (.invokespecial 3, 3) := by decide +kernel
theorem dX8_init_4 : decode cX8_init 4 = .ok (.aload_n 0, 1) := by decide +kernel
theorem dX8_init_5 : decode cX8_init 5 = .ok (.new 9, 3) := by decide +kernel
theorem dX8_init_8 : decode cX8_init 8 = .ok (.dup, 1) := by decide +kernel
theorem dX8_init_9 : decode cX8_init 9 = .ok (.invokespecial 11, 3) := by decide +kernel
theorem dX8_init_12 : decode cX8_init 12 = .ok (.putfield 12, 3) := by decide +kernel
theorem dX8_init_15 : decode cX8_init 15 = .ok (.aload_n 0, 1) := by decide +kernel
theorem dX8_init_16 : decode cX8_init 16 = .ok (.new 16, 3) := by decide +kernel
theorem dX8_init_19 : decode cX8_init 19 = .ok (.dup, 1) := by decide +kernel
theorem dX8_init_20 : decode cX8_init 20 = .ok (.invokespecial 18, 3) := by decide +kernel
theorem dX8_init_23 : decode cX8_init 23 = .ok (.putfield 19, 3) := by decide +kernel
theorem dX8_init_26 : decode cX8_init 26 = .ok (.aload_n 0, 1) := by decide +kernel
theorem dX8_init_27 : decode cX8_init 27 = .ok (.new 23, 3) := by decide +kernel
theorem dX8_init_30 : decode cX8_init 30 = .ok (.dup, 1) := by decide +kernel
theorem dX8_init_31 : decode cX8_init 31 = .ok (.invokespecial 25, 3) := by decide +kernel
theorem dX8_init_34 : decode cX8_init 34 = .ok (.putfield 26, 3) := by decide +kernel
theorem dX8_init_37 : decode cX8_init 37 = .ok (.aload_n 0, 1) := by decide +kernel
theorem dX8_init_38 : decode cX8_init 38 = .ok (.new 30, 3) := by decide +kernel
theorem dX8_init_41 : decode cX8_init 41 = .ok (.dup, 1) := by decide +kernel
theorem dX8_init_42 : decode cX8_init 42 = .ok (.invokespecial 32, 3) := by decide +kernel
theorem dX8_init_45 : decode cX8_init 45 = .ok (.putfield 33, 3) := by decide +kernel
theorem dX8_init_48 : decode cX8_init 48 = .ok (.aload_n 0, 1) := by decide +kernel
theorem dX8_init_49 : decode cX8_init 49 = .ok (.new 37, 3) := by decide +kernel
theorem dX8_init_52 : decode cX8_init 52 = .ok (.dup, 1) := by decide +kernel
theorem dX8_init_53 : decode cX8_init 53 = .ok (.invokespecial 39, 3) := by decide +kernel
theorem dX8_init_56 : decode cX8_init 56 = .ok (.putfield 40, 3) := by decide +kernel
theorem dX8_init_59 : decode cX8_init 59 = .ok (.aload_n 0, 1) := by decide +kernel
theorem dX8_init_60 : decode cX8_init 60 = .ok (.new 44, 3) := by decide +kernel
theorem dX8_init_63 : decode cX8_init 63 = .ok (.dup, 1) := by decide +kernel
theorem dX8_init_64 : decode cX8_init 64 = .ok (.aload_n 0, 1) := by decide +kernel
theorem dX8_init_65 : decode cX8_init 65 = .ok (.getfield 12, 3) := by decide +kernel
theorem dX8_init_68 : decode cX8_init 68 = .ok (.aload_n 0, 1) := by decide +kernel
theorem dX8_init_69 : decode cX8_init 69 = .ok (.getfield 26, 3) := by decide +kernel
theorem dX8_init_72 : decode cX8_init 72 = .ok (.invokespecial 46, 3) := by decide +kernel
theorem dX8_init_75 : decode cX8_init 75 = .ok (.putfield 49, 3) := by decide +kernel
theorem dX8_init_78 : decode cX8_init 78 = .ok (.aload_n 0, 1) := by decide +kernel
theorem dX8_init_79 : decode cX8_init 79 = .ok (.new 53, 3) := by decide +kernel
theorem dX8_init_82 : decode cX8_init 82 = .ok (.dup, 1) := by decide +kernel
theorem dX8_init_83 : decode cX8_init 83 = .ok (.aload_n 0, 1) := by decide +kernel
theorem dX8_init_84 : decode cX8_init 84 = .ok (.getfield 12, 3) := by decide +kernel
theorem dX8_init_87 : decode cX8_init 87 = .ok (.invokespecial 55, 3) := by decide +kernel
theorem dX8_init_90 : decode cX8_init 90 = .ok (.putfield 58, 3) := by decide +kernel
theorem dX8_init_93 : decode cX8_init 93 = .ok (.aload_n 0, 1) := by decide +kernel
theorem dX8_init_94 : decode cX8_init 94 = .ok (.bipush 7, 2) := by decide +kernel
theorem dX8_init_96 : decode cX8_init 96 = .ok (.newarray .int, 2) := by decide +kernel
theorem dX8_init_98 : decode cX8_init 98 = .ok (.putfield 62, 3) := by decide +kernel
theorem dX8_init_101 : decode cX8_init 101 = .ok (.aload_n 0, 1) := by decide +kernel
theorem dX8_init_102 : decode cX8_init 102 = .ok (.bipush 6, 2) := by decide +kernel
theorem dX8_init_104 : decode cX8_init 104 = .ok (.newarray .int, 2) := by decide +kernel
theorem dX8_init_106 : decode cX8_init 106 = .ok (.putfield 66, 3) := by decide +kernel
theorem dX8_init_109 : decode cX8_init 109 = .ok (.aload_n 0, 1) := by decide +kernel
theorem dX8_init_110 : decode cX8_init 110 = .ok (.new 69, 3) := by decide +kernel
theorem dX8_init_113 : decode cX8_init 113 = .ok (.dup, 1) := by decide +kernel
theorem dX8_init_114 : decode cX8_init 114 = .ok (.aload_n 0, 1) := by decide +kernel
theorem dX8_init_115 : decode cX8_init 115 = .ok (.getfield 19, 3) := by decide +kernel
theorem dX8_init_118 : decode cX8_init 118 = .ok (.aload_n 0, 1) := by decide +kernel
theorem dX8_init_119 : decode cX8_init 119 = .ok (.getfield 49, 3) := by decide +kernel
theorem dX8_init_122 : decode cX8_init 122 = .ok (.aload_n 0, 1) := by decide +kernel
theorem dX8_init_123 : decode cX8_init 123 = .ok (.getfield 58, 3) := by decide +kernel
theorem dX8_init_126 : decode cX8_init 126 = .ok (.aload_n 0, 1) := by decide +kernel
theorem dX8_init_127 : decode cX8_init 127 = .ok (.getfield 66, 3) := by decide +kernel
theorem dX8_init_130 : decode cX8_init 130 = .ok (.invokespecial 71, 3) := by decide +kernel
theorem dX8_init_133 : decode cX8_init 133 = .ok (.putfield 74, 3) := by decide +kernel
theorem dX8_init_136 : decode cX8_init 136 = .ok (.aload_n 0, 1) := by decide +kernel
theorem dX8_init_137 : decode cX8_init 137 = .ok (.iconst 0, 1) := by decide +kernel
theorem dX8_init_138 : decode cX8_init 138 = .ok (.putfield 78, 3) := by decide +kernel
theorem dX8_init_141 : decode cX8_init 141 = .ok (.aload_n 0, 1) := by decide +kernel
theorem dX8_init_142 : decode cX8_init 142 = .ok (.bipush 60, 2) := by decide +kernel
theorem dX8_init_144 : decode cX8_init 144 = .ok (.putfield 82, 3) := by decide +kernel
theorem dX8_init_147 : decode cX8_init 147 = .ok (.aload_n 0, 1) := by decide +kernel
theorem dX8_init_148 : decode cX8_init 148 = .ok (.bipush 20, 2) := by decide +kernel
theorem dX8_init_150 : decode cX8_init 150 = .ok (.putfield 85, 3) := by decide +kernel
theorem dX8_init_153 : decode cX8_init 153 = .ok (.aload_n 0, 1) := by decide +kernel
theorem dX8_init_154 : decode cX8_init 154 = .ok (.bipush 127, 2) := by decide +kernel
theorem dX8_init_156 : decode cX8_init 156 = .ok (.putfield 88, 3) := by decide +kernel
theorem dX8_init_159 : decode cX8_init 159 = .ok (.return_, 1) := by decide +kernel
theorem dX9_init_0 : decode cX9_init 0 = .ok (.aload_n 0, 1) := by decide +kernel
theorem dX9_init_1 : decode cX9_init 1 = .ok (.invokespecial 1, 3) := by decide +kernel
theorem dX9_init_4 : decode cX9_init 4 = .ok (.aload_n 0, 1) := by decide +kernel
theorem dX9_init_5 : decode cX9_init 5 = .ok (.bipush 6, 2) := by decide +kernel
theorem dX9_init_7 : decode cX9_init 7 = .ok (.newarray .int, 2) := by decide +kernel
theorem dX9_init_9 : decode cX9_init 9 = .ok (.putfield 7, 3) := by decide +kernel
theorem dX9_init_12 : decode cX9_init 12 = .ok (.aload_n 0, 1) := by decide +kernel
theorem dX9_init_13 : decode cX9_init 13 = .ok (.bipush 6, 2) := by decide +kernel
theorem dX9_init_15 : decode cX9_init 15 = .ok (.newarray .int, 2) := by decide +kernel
theorem dX9_init_17 : decode cX9_init 17 = .ok (.putfield 13, 3) := by decide +kernel
theorem dX9_init_20 : decode cX9_init 20 = .ok (.aload_n 0, 1) := by decide +kernel
theorem dX9_init_21 : decode cX9_init 21 = .ok (.bipush 6, 2) := by decide +kernel
theorem dX9_init_23 : decode cX9_init 23 = .ok (.newarray .int, 2) := by decide +kernel
theorem dX9_init_25 : decode cX9_init 25 = .ok (.putfield 16, 3) := by decide +kernel
theorem dX9_init_28 : decode cX9_init 28 = .ok (.aload_n 0, 1) := by decide +kernel
theorem dX9_init_29 : decode cX9_init 29 = .ok (.bipush 18, 2) := by decide +kernel
theorem dX9_init_31 : decode cX9_init 31 = .ok (.newarray .int, 2) := by decide +kernel
theorem dX9_init_33 : decode cX9_init 33 = .ok (.putfield 19, 3) := by decide +kernel
theorem dX9_init_36 : decode cX9_init 36 = .ok (.aload_n 0, 1) := by decide +kernel
theorem dX9_init_37 : decode cX9_init 37 = .ok (.bipush 64, 2) := by decide +kernel
theorem dX9_init_39 : decode cX9_init 39 = .ok (.newarray .int, 2) := by decide +kernel
theorem dX9_init_41 : decode cX9_init 41 = .ok (.putfield 22, 3) := by decide +kernel
theorem dX9_init_44 : decode cX9_init 44 = .ok (.aload_n 0, 1) := by decide +kernel
theorem dX9_init_45 : decode cX9_init 45 = .ok (.bipush 64, 2) := by decide +kernel
theorem dX9_init_47 : decode cX9_init 47 = .ok (.newarray .int, 2) := by decide +kernel
theorem dX9_init_49 : decode cX9_init 49 = .ok (.putfield 25, 3) := by decide +kernel
theorem dX9_init_52 : decode cX9_init 52 = .ok (.aload_n 0, 1) := by decide +kernel
theorem dX9_init_53 : decode cX9_init 53 = .ok (.bipush 60, 2) := by decide +kernel
theorem dX9_init_55 : decode cX9_init 55 = .ok (.putfield 28, 3) := by decide +kernel
theorem dX9_init_58 : decode cX9_init 58 = .ok (.aload_n 0, 1) := by decide +kernel
theorem dX9_init_59 : decode cX9_init 59 = .ok (.bipush 20, 2) := by decide +kernel
theorem dX9_init_61 : decode cX9_init 61 = .ok (.putfield 32, 3) := by decide +kernel
theorem dX9_init_64 : decode cX9_init 64 = .ok (.aload_n 0, 1) := by decide +kernel
theorem dX9_init_65 : decode cX9_init 65 = .ok (.bipush 127, 2) := by decide +kernel
theorem dX9_init_67 : decode cX9_init 67 = .ok (.putfield 35, 3) := by decide +kernel
theorem dX9_init_70 : decode cX9_init 70 = .ok (.aload_n 0, 1) := by decide +kernel
theorem dX9_init_71 : decode cX9_init 71 = .ok (.sipush 144, 3) := by decide +kernel
theorem dX9_init_74 : decode cX9_init 74 = .ok (.newarray .int, 2) := by decide +kernel
theorem dX9_init_76 : decode cX9_init 76 = .ok (.putfield 38, 3) := by decide +kernel
theorem dX9_init_79 : decode cX9_init 79 = .ok (.aload_n 0, 1) := by decide +kernel
theorem dX9_init_80 : decode cX9_init 80 = .ok (.bipush 6, 2) := by decide +kernel
theorem dX9_init_82 : decode cX9_init 82 = .ok (.newarray .int, 2) := by decide +kernel
theorem dX9_init_84 : decode cX9_init 84 = .ok (.putfield 41, 3) := by decide +kernel
theorem dX9_init_87 : decode cX9_init 87 = .ok (.aload_n 0, 1) := by decide +kernel
theorem dX9_init_88 : decode cX9_init 88 = .ok (.bipush 40, 2) := by decide +kernel
theorem dX9_init_90 : decode cX9_init 90 = .ok (.newarray .int, 2) := by decide +kernel
theorem dX9_init_92 : decode cX9_init 92 = .ok (.putfield 44, 3) := by decide +kernel
theorem dX9_init_95 : decode cX9_init 95 = .ok (.aload_n 0, 1) := by decide +kernel
theorem dX9_init_96 : decode cX9_init 96 = .ok (.bipush 10, 2) := by decide +kernel
theorem dX9_init_98 : decode cX9_init 98 = .ok (.newarray .int, 2) := by decide +kernel
theorem dX9_init_100 : decode cX9_init 100 = .ok (.putfield 47, 3) := by decide +kernel
theorem dX9_init_103 : decode cX9_init 103 = .ok (.aload_n 0, 1) := by decide +kernel
theorem dX9_init_104 : decode cX9_init 104 = .ok (.bipush 10, 2) := by decide +kernel
theorem dX9_init_106 : decode cX9_init 106 = .ok (.newarray .int, 2) := by decide +kernel
theorem dX9_init_108 : decode cX9_init 108 = .ok (.putfield 50, 3) := by decide +kernel
theorem dX9_init_111 : decode cX9_init 111 = .ok (.aload_n 0, 1) := by decide +kernel
theorem dX9_init_112 : decode cX9_init 112 = .ok (.bipush 30, 2) := by decide +kernel
theorem dX9_init_114 : decode cX9_init 114 = .ok (.newarray .int, 2) := by decide +kernel
theorem dX9_init_116 : decode cX9_init 116 = .ok (.putfield 53, 3) := by decide +kernel
theorem dX9_init_119 : decode cX9_init 119 = .ok (.aload_n 0, 1) := by decide +kernel
theorem dX9_init_120 : decode cX9_init 120 = .ok (.bipush 7, 2) := by decide +kernel
theorem dX9_init_122 : decode cX9_init 122 = .ok (.newarray .int, 2) := by decide +kernel
theorem dX9_init_124 : decode cX9_init 124 = .ok (.putfield 56, 3) := by decide +kernel
theorem dX9_init_127 : decode cX9_init 127 = .ok (.aload_n 0, 1) := by decide +kernel
theorem dX9_init_128 : decode cX9_init 128 = .ok (.bipush 6, 2) := by decide +kernel
theorem dX9_init_130 : decode cX9_init 130 = .ok (.newarray .int, 2) := by decide +kernel
theorem dX9_init_132 : decode cX9_init 132 = .ok (.putfield 59, 3) := by decide +kernel
theorem dX9_init_135 : decode cX9_init 135 = .ok (.aload_n 0, 1) := by decide +kernel
theorem dX9_init_136 : decode cX9_init 136 = .ok (.bipush 7, 2) := by decide +kernel
theorem dX9_init_138 : decode cX9_init 138 = .ok (.newarray .int, 2) := by decide +kernel
theorem dX9_init_140 : decode cX9_init 140 = .ok (.putfield 62, 3) := by decide +kernel
theorem dX9_init_143 : decode cX9_init 143 = .ok (.aload_n 0, 1) := by decide +kernel
theorem dX9_init_144 : decode cX9_init 144 = .ok (.sipush 240, 3) := by decide +kernel
theorem dX9_init_147 : decode cX9_init 147 = .ok (.newarray .long, 2) := by decide +kernel
theorem dX9_init_149 : decode cX9_init 149 = .ok (.putfield 65, 3) := by decide +kernel
theorem dX9_init_152 : decode cX9_init 152 = .ok (.aload_n 0, 1) := by decide +kernel
theorem dX9_init_153 : decode cX9_init 153 = .ok (.sipush 240, 3) := by decide +kernel
theorem dX9_init_156 : decode cX9_init 156 = .ok (.newarray .int, 2) := by decide +kernel
theorem dX9_init_158 : decode cX9_init 158 = .ok (.putfield 69, 3) := by decide +kernel
theorem dX9_init_161 : decode cX9_init 161 = .ok (.aload_n 0, 1) := by decide +kernel
theorem dX9_init_162 : decode cX9_init 162 = .ok (.iconst 5, 1) := by decide +kernel
theorem dX9_init_163 : decode cX9_init 163 = .ok (.newarray .long, 2) := by decide +kernel
theorem dX9_init_165 : decode cX9_init 165 = .ok (.putfield 72, 3) := by decide +kernel
theorem dX9_init_168 : decode cX9_init 168 = .ok (.aload_n 0, 1) := by decide +kernel
theorem dX9_init_169 : decode cX9_init 169 = .ok (.bipush 6, 2) := by decide +kernel
theorem dX9_init_171 : decode cX9_init 171 = .ok (.newarray .int, 2) := by decide +kernel
theorem dX9_init_173 : decode cX9_init 173 = .ok (.putfield 75, 3) := by decide +kernel
theorem dX9_init_176 : decode cX9_init 176 = .ok (.aload_n 0, 1) := by decide +kernel
theorem dX9_init_177 : decode cX9_init 177 = .ok (.bipush 6, 2) := by decide +kernel
theorem dX9_init_179 : decode cX9_init 179 = .ok (.newarray .int, 2) := by decide +kernel
theorem dX9_init_181 : decode cX9_init 181 = .ok (.putfield 78, 3) := by decide +kernel
theorem dX9_init_184 : decode cX9_init 184 = .ok (.aload_n 0, 1) := by decide +kernel
theorem dX9_init_185 : decode cX9_init 185 = .ok (.bipush 7, 2) := by decide +kernel
theorem dX9_init_187 : decode cX9_init 187 = .ok (.newarray .int, 2) := by decide +kernel
theorem dX9_init_189 : decode cX9_init 189 = .ok (.putfield 81, 3) := by decide +kernel
theorem dX9_init_192 : decode cX9_init 192 = .ok (.aload_n 0, 1) := by decide +kernel
theorem dX9_init_193 : decode cX9_init 193 = .ok (.bipush 101, 2) := by decide +kernel
theorem dX9_init_195 : decode cX9_init 195 = .ok (.newarray .long, 2) := by decide +kernel
theorem dX9_init_197 : decode cX9_init 197 = .ok (.putfield 84, 3) := by decide +kernel
theorem dX9_init_200 : decode cX9_init 200 = .ok (.aload_n 0, 1) := by decide +kernel
theorem dX9_init_201 : decode cX9_init 201 = .ok (.iconst 5, 1) := by decide +kernel
theorem dX9_init_202 : decode cX9_init 202 = .ok (.newarray .int, 2) := by decide +kernel
theorem dX9_init_204 : decode cX9_init 204 = .ok (.putfield 87, 3) := by decide +kernel
theorem dX9_init_207 : decode cX9_init 207 = .ok (.aload_n 0, 1) := by decide +kernel
theorem dX9_init_208 : decode cX9_init 208 = .ok (.bipush 32, 2) := by decide +kernel
theorem dX9_init_210 : decode cX9_init 210 = .ok (.newarray .long, 2) := by decide +kernel
theorem dX9_init_212 : decode cX9_init 212 = .ok (.putfield 90, 3) := by decide +kernel
theorem dX9_init_215 : decode cX9_init 215 = .ok (.aload_n 0, 1) := by decide +kernel
theorem dX9_init_216 : decode cX9_init 216 = .ok (.bipush 6, 2) := by decide +kernel
theorem dX9_init_218 : decode cX9_init 218 = .ok (.newarray .int, 2) := by decide +kernel
theorem dX9_init_220 : decode cX9_init 220 = .ok (.putfield 93, 3) := by decide +kernel
theorem dX9_init_223 : decode cX9_init 223 = .ok (.aload_n 0, 1) := by decide +kernel
theorem dX9_init_224 : decode cX9_init 224 = .ok (.iconst 4, 1) := by decide +kernel
theorem dX9_init_225 : decode cX9_init 225 = .ok (.newarray .boolean, 2) := by decide +kernel
theorem dX9_init_227 : decode cX9_init 227 = .ok (.putfield 96, 3) := by decide +kernel
theorem dX9_init_230 : decode cX9_init 230 = .ok (.aload_n 0, 1) := by decide +kernel
theorem dX9_init_231 : decode cX9_init 231 = .ok (.iconst 4, 1) := by decide +kernel
theorem dX9_init_232 : decode cX9_init 232 = .ok (.newarray .int, 2) := by decide +kernel
theorem dX9_init_234 : decode cX9_init 234 = .ok (.putfield 100, 3) := by decide +kernel
theorem dX9_init_237 : decode cX9_init 237 = .ok (.aload_n 0, 1) := by decide +kernel
theorem dX9_init_238 : decode cX9_init 238 = .ok (.iconst 4, 1) := by decide +kernel
theorem dX9_init_239 : decode cX9_init 239 = .ok (.newarray .int, 2) := by decide +kernel
theorem dX9_init_241 : decode cX9_init 241 = .ok (.putfield 103, 3) := by decide +kernel
theorem dX9_init_244 : decode cX9_init 244 = .ok (.aload_n 0, 1) := by decide +kernel
theorem dX9_init_245 : decode cX9_init 245 = .ok (.sipush 160, 3) := by decide +kernel
theorem dX9_init_248 : decode cX9_init 248 = .ok (.newarray .int, 2) := by decide +kernel
theorem dX9_init_250 : decode cX9_init 250 = .ok (.putfield 106, 3) := by decide +kernel
theorem dX9_init_253 : decode cX9_init 253 = .ok (.aload_n 0, 1) := by decide +kernel
theorem dX9_init_254 : decode cX9_init 254 = .ok (.bipush 40, 2) := by decide +kernel
theorem dX9_init_256 : decode cX9_init 256 = .ok (.newarray .int, 2) := by decide +kernel
theorem dX9_init_258 : decode cX9_init 258 = .ok (.putfield 109, 3) := by decide +kernel
theorem dX9_init_261 : decode cX9_init 261 = .ok (.iconst 0, 1) := by decide +kernel
theorem dX9_init_262 : decode cX9_init 262 = .ok (.istore_n 1, 1) := by decide +kernel
theorem dX9_init_263 : decode cX9_init 263 = .ok (.iload_n 1, 1) := by decide +kernel
theorem dX9_init_264 : decode cX9_init 264 = .ok (.bipush 6, 2) := by decide +kernel
theorem dX9_init_266 : decode cX9_init 266 = .ok (.if_icmp .ge 54, 3) := by decide +kernel
theorem dX9_init_269 : decode cX9_init 269 = .ok (.aload_n 0, 1) := by decide +kernel
theorem dX9_init_270 : decode cX9_init 270 = .ok (.getfield 7, 3) := by decide +kernel
theorem dX9_init_273 : decode cX9_init 273 = .ok (.iload_n 1, 1) := by decide +kernel
theorem dX9_init_274 : decode cX9_init 274 = .ok (.iconst 1, 1) := by decide +kernel
theorem dX9_init_275 : decode cX9_init 275 = .ok (.iastore, 1) := by decide +kernel
theorem dX9_init_276 : decode cX9_init 276 = .ok (.aload_n 0, 1) := by decide +kernel
theorem dX9_init_277 : decode cX9_init 277 = .ok (.getfield 13, 3) := by decide +kernel
theorem dX9_init_280 : decode cX9_init 280 = .ok (.iload_n 1, 1) := by decide +kernel
theorem dX9_init_281 : decode cX9_init 281 = .ok (.iconst 1, 1) := by decide +kernel
theorem dX9_init_282 : decode cX9_init 282 = .ok (.iastore, 1) := by decide +kernel
theorem dX9_init_283 : decode cX9_init 283 = .ok (.aload_n 0, 1) := by decide +kernel
theorem dX9_init_284 : decode cX9_init 284 = .ok (.getfield 19, 3) := by decide +kernel
theorem dX9_init_287 : decode cX9_init 287 = .ok (.iconst 3, 1) := by decide +kernel
theorem dX9_init_288 : decode cX9_init 288 = .ok (.iload_n 1, 1) := by decide +kernel
theorem dX9_init_289 : decode cX9_init 289 = .ok (.imul, 1) := by decide +kernel
theorem dX9_init_290 : decode cX9_init 290 = .ok (.iconst 2, 1) := by decide +kernel
theorem dX9_init_291 : decode cX9_init 291 = .ok (.iastore, 1) := by decide +kernel
theorem dX9_init_292 : decode cX9_init 292 = .ok (.aload_n 0, 1) := by decide +kernel
theorem dX9_init_293 : decode cX9_init 293 = .ok (.getfield 19, 3) := by decide +kernel
theorem dX9_init_296 : decode cX9_init 296 = .ok (.iconst 3, 1) := by decide +kernel
theorem dX9_init_297 : decode cX9_init 297 = .ok (.iload_n 1, 1) := by decide +kernel
theorem dX9_init_298 : decode cX9_init 298 = .ok (.imul, 1) := by decide +kernel
theorem dX9_init_299 : decode cX9_init 299 = .ok (.iconst 1, 1) := by decide +kernel
theorem dX9_init_300 : decode cX9_init 300 = .ok (.iadd, 1) := by decide +kernel
theorem dX9_init_301 : decode cX9_init 301 = .ok (.iconst 3, 1) := by decide +kernel
theorem dX9_init_302 : decode cX9_init 302 = .ok (.iastore, 1) := by decide +kernel
theorem dX9_init_303 : decode cX9_init 303 = .ok (.aload_n 0, 1) := by decide +kernel
theorem dX9_init_304 : decode cX9_init 304 = .ok (.getfield 19, 3) := by decide +kernel
theorem dX9_init_307 : decode cX9_init 307 = .ok (.iconst 3, 1) := by decide +kernel
theorem dX9_init_308 : decode cX9_init 308 = .ok (.iload_n 1, 1) := by decide +kernel
theorem dX9_init_309 : decode cX9_init 309 = .ok (.imul, 1) := by decide +kernel
theorem dX9_init_310 : decode cX9_init 310 = .ok (.iconst 2, 1) := by decide +kernel
theorem dX9_init_311 : decode cX9_init 311 = .ok (.iadd, 1) := by decide +kernel
theorem dX9_init_312 : decode cX9_init 312 = .ok (.iconst 4, 1) := by decide +kernel
theorem dX9_init_313 : decode cX9_init 313 = .ok (.iastore, 1) := by decide +kernel
theorem dX9_init_314 : decode cX9_init 314 = .ok (.iinc 1 1, 3) := by decide +kernel
theorem dX9_init_317 : decode cX9_init 317 = .ok (.goto (-54), 3) := by decide +kernel
theorem dX9_init_320 : decode cX9_init 320 = .ok (.return_, 1) := by decide +kernel
