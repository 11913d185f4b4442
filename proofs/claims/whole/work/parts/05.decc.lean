theorem dX12_init_0 : decode cX12_init 0 = .ok (.aload_n 0, 1) := by decide +kernel
theorem dX12_init_1 : decode cX12_init 1 = .ok (.invokespecial 1, 3) := by decide +kernel
theorem dX12_init_4 : decode cX12_init 4 = .ok (.aload_n 0, 1) := by decide +kernel
theorem dX12_init_5 : decode cX12_init 5 = .ok (.bipush 60, 2) := by decide +kernel
theorem dX12_init_7 : decode cX12_init 7 = .ok (.newarray .int, 2) := by decide +kernel
theorem dX12_init_9 : decode cX12_init 9 = .ok (.putfield 7, 3) := by decide +kernel
theorem dX12_init_12 : decode cX12_init 12 = .ok (.aload_n 0, 1) := by decide +kernel
theorem dX12_init_13 : decode cX12_init 13 = .ok (.bipush 60, 2) := by decide +kernel
theorem dX12_init_15 : decode cX12_init 15 = .ok (.newarray .int, 2) := by decide +kernel
theorem dX12_init_17 : decode cX12_init 17 = .ok (.putfield 13, 3) := by decide +kernel
theorem dX12_init_20 : decode cX12_init 20 = .ok (.aload_n 0, 1) := by decide +kernel
theorem dX12_init_21 : decode cX12_init 21 = .ok (.bipush 60, 2) := by decide +kernel
theorem dX12_init_23 : decode cX12_init 23 = .ok (.newarray .int, 2) := by decide +kernel
theorem dX12_init_25 : decode cX12_init 25 = .ok (.putfield 16, 3) := by decide +kernel
theorem dX12_init_28 : decode cX12_init 28 = .ok (.aload_n 0, 1) := by decide +kernel
theorem dX12_init_29 : decode cX12_init 29 = .ok (.bipush 60, 2) := by decide +kernel
theorem dX12_init_31 : decode cX12_init 31 = .ok (.newarray .int, 2) := by decide +kernel
theorem dX12_init_33 : decode cX12_init 33 = .ok (.putfield 19, 3) := by decide +kernel
theorem dX12_init_36 : decode cX12_init 36 = .ok (.aload_n 0, 1) := by decide +kernel
theorem dX12_init_37 : decode cX12_init 37 = .ok (.bipush 60, 2) := by decide +kernel
theorem dX12_init_39 : decode cX12_init 39 = .ok (.newarray .int, 2) := by decide +kernel
theorem dX12_init_41 : decode cX12_init 41 = .ok (.putfield 22, 3) := by decide +kernel
theorem dX12_init_44 : decode cX12_init 44 = .ok (.aload_n 0, 1) := by decide +kernel
theorem dX12_init_45 : decode cX12_init 45 = .ok (.bipush 60, 2) := by decide +kernel
theorem dX12_init_47 : decode cX12_init 47 = .ok (.newarray .int, 2) := by decide +kernel
theorem dX12_init_49 : decode cX12_init 49 = .ok (.putfield 25, 3) := by decide +kernel
theorem dX12_init_52 : decode cX12_init 52 = .ok (.aload_n 0, 1) := by decide +kernel
theorem dX12_init_53 : decode cX12_init 53 = .ok (.sipush 999, 3) := by decide +kernel
theorem dX12_init_56 : decode cX12_init 56 = .ok (.putfield 28, 3) := by decide +kernel
theorem dX12_init_59 : decode cX12_init 59 = .ok (.aload_n 0, 1) := by decide +kernel
theorem dX12_init_60 : decode cX12_init 60 = .ok (.bipush 12, 2) := by decide +kernel
theorem dX12_init_62 : decode cX12_init 62 = .ok (.newarray .int, 2) := by decide +kernel
theorem dX12_init_64 : decode cX12_init 64 = .ok (.putfield 32, 3) := by decide +kernel
theorem dX12_init_67 : decode cX12_init 67 = .ok (.aload_n 0, 1) := by decide +kernel
theorem dX12_init_68 : decode cX12_init 68 = .ok (.bipush 12, 2) := by decide +kernel
theorem dX12_init_70 : decode cX12_init 70 = .ok (.newarray .int, 2) := by decide +kernel
theorem dX12_init_72 : decode cX12_init 72 = .ok (.putfield 35, 3) := by decide +kernel
theorem dX12_init_75 : decode cX12_init 75 = .ok (.aload_n 0, 1) := by decide +kernel
theorem dX12_init_76 : decode cX12_init 76 = .ok (.bipush 8, 2) := by decide +kernel
theorem dX12_init_78 : decode cX12_init 78 = .ok (.newarray .int, 2) := by decide +kernel
theorem dX12_init_80 : decode cX12_init 80 = .ok (.putfield 38, 3) := by decide +kernel
theorem dX12_init_83 : decode cX12_init 83 = .ok (.aload_n 0, 1) := by decide +kernel
theorem dX12_init_84 : decode cX12_init 84 = .ok (.bipush 88, 2) := by decide +kernel
theorem dX12_init_86 : decode cX12_init 86 = .ok (.newarray .int, 2) := by decide +kernel
theorem dX12_init_88 : decode cX12_init 88 = .ok (.putfield 41, 3) := by decide +kernel
theorem dX12_init_91 : decode cX12_init 91 = .ok (.aload_n 0, 1) := by decide +kernel
theorem dX12_init_92 : decode cX12_init 92 = .ok (.bipush 60, 2) := by decide +kernel
theorem dX12_init_94 : decode cX12_init 94 = .ok (.newarray .int, 2) := by decide +kernel
theorem dX12_init_96 : decode cX12_init 96 = .ok (.putfield 44, 3) := by decide +kernel
theorem dX12_init_99 : decode cX12_init 99 = .ok (.aload_n 0, 1) := by decide +kernel
theorem dX12_init_100 : decode cX12_init 100 = .ok (.bipush 60, 2) := by decide +kernel
theorem dX12_init_102 : decode cX12_init 102 = .ok (.newarray .int, 2) := by decide +kernel
theorem dX12_init_104 : decode cX12_init 104 = .ok (.putfield 47, 3) := by decide +kernel
theorem dX12_init_107 : decode cX12_init 107 = .ok (.aload_n 0, 1) := by decide +kernel
theorem dX12_init_108 : decode cX12_init 108 = .ok (.bipush 60, 2) := by decide +kernel
theorem dX12_init_110 : decode cX12_init 110 = .ok (.newarray .int, 2) := by decide +kernel
theorem dX12_init_112 : decode cX12_init 112 = .ok (.putfield 50, 3) := by decide +kernel
theorem dX12_init_115 : decode cX12_init 115 = .ok (.aload_n 0, 1) := by decide +kernel
theorem dX12_init_116 : decode cX12_init 116 = .ok (.bipush 60, 2) := by decide +kernel
theorem dX12_init_118 : decode cX12_init 118 = .ok (.newarray .int, 2) := by decide +kernel
theorem dX12_init_120 : decode cX12_init 120 = .ok (.putfield 53, 3) := by decide +kernel
theorem dX12_init_123 : decode cX12_init 123 = .ok (.aload_n 0, 1) := by decide +kernel
theorem dX12_init_124 : decode cX12_init 124 = .ok (.bipush 60, 2) := by decide +kernel
theorem dX12_init_126 : decode cX12_init 126 = .ok (.newarray .int, 2) := by decide +kernel
theorem dX12_init_128 : decode cX12_init 128 = .ok (.putfield 56, 3) := by decide +kernel
theorem dX12_init_131 : decode cX12_init 131 = .ok (.aload_n 0, 1) := by decide +kernel
theorem dX12_init_132 : decode cX12_init 132 = .ok (.bipush 60, 2) := by decide +kernel
theorem dX12_init_134 : decode cX12_init 134 = .ok (.newarray .int, 2) := by decide +kernel
theorem dX12_init_136 : decode cX12_init 136 = .ok (.putfield 59, 3) := by decide +kernel
theorem dX12_init_139 : decode cX12_init 139 = .ok (.aload_n 0, 1) := by decide +kernel
theorem dX12_init_140 : decode cX12_init 140 = .ok (.bipush 60, 2) := by decide +kernel
theorem dX12_init_142 : decode cX12_init 142 = .ok (.newarray .int, 2) := by decide +kernel
theorem dX12_init_144 : decode cX12_init 144 = .ok (.putfield 62, 3) := by decide +kernel
theorem dX12_init_147 : decode cX12_init 147 = .ok (.aload_n 0, 1) := by decide +kernel
theorem dX12_init_148 : decode cX12_init 148 = .ok (.sipush 180, 3) := by decide +kernel
theorem dX12_init_151 : decode cX12_init 151 = .ok (.newarray .int, 2) := by decide +kernel
theorem dX12_init_153 : decode cX12_init 153 = .ok (.putfield 65, 3) := by decide +kernel
theorem dX12_init_156 : decode cX12_init 156 = .ok (.aload_n 0, 1) := by decide +kernel
theorem dX12_init_157 : decode cX12_init 157 = .ok (.bipush 14, 2) := by decide +kernel
theorem dX12_init_159 : decode cX12_init 159 = .ok (.newarray .int, 2) := by decide +kernel
theorem dX12_init_161 : decode cX12_init 161 = .ok (.putfield 68, 3) := by decide +kernel
theorem dX12_init_164 : decode cX12_init 164 = .ok (.aload_n 0, 1) := by decide +kernel
theorem dX12_init_165 : decode cX12_init 165 = .ok (.bipush 24, 2) := by decide +kernel
theorem dX12_init_167 : decode cX12_init 167 = .ok (.newarray .int, 2) := by decide +kernel
theorem dX12_init_169 : decode cX12_init 169 = .ok (.putfield 71, 3) := by decide +kernel
theorem dX12_init_172 : decode cX12_init 172 = .ok (.aload_n 0, 1) := by decide +kernel
theorem dX12_init_173 : decode cX12_init 173 = .ok (.iconst 4, 1) := by decide +kernel
theorem dX12_init_174 : decode cX12_init 174 = .ok (.newarray .int, 2) := by decide +kernel
theorem dX12_init_176 : decode cX12_init 176 = .ok (.putfield 74, 3) := by decide +kernel
theorem dX12_init_179 : decode cX12_init 179 = .ok (.aload_n 0, 1) := by decide +kernel
theorem dX12_init_180 : decode cX12_init 180 = .ok (.iconst 4, 1) := by decide +kernel
theorem dX12_init_181 : decode cX12_init 181 = .ok (.newarray .int, 2) := by decide +kernel
theorem dX12_init_183 : decode cX12_init 183 = .ok (.putfield 77, 3) := by decide +kernel
theorem dX12_init_186 : decode cX12_init 186 = .ok (.aload_n 0, 1) := by decide +kernel
theorem dX12_init_187 : decode cX12_init 187 = .ok (.bipush 9, 2) := by decide +kernel
theorem dX12_init_189 : decode cX12_init 189 = .ok (.newarray .int, 2) := by decide +kernel
theorem dX12_init_191 : decode cX12_init 191 = .ok (.putfield 80, 3) := by decide +kernel
theorem dX12_init_194 : decode cX12_init 194 = .ok (.aload_n 0, 1) := by decide +kernel
theorem dX12_init_195 : decode cX12_init 195 = .ok (.bipush 24, 2) := by decide +kernel
theorem dX12_init_197 : decode cX12_init 197 = .ok (.newarray .int, 2) := by decide +kernel
theorem dX12_init_199 : decode cX12_init 199 = .ok (.putfield 83, 3) := by decide +kernel
theorem dX12_init_202 : decode cX12_init 202 = .ok (.aload_n 0, 1) := by decide +kernel
theorem dX12_init_203 : decode cX12_init 203 = .ok (.bipush 24, 2) := by decide +kernel
theorem dX12_init_205 : decode cX12_init 205 = .ok (.newarray .int, 2) := by decide +kernel
theorem dX12_init_207 : decode cX12_init 207 = .ok (.putfield 86, 3) := by decide +kernel
theorem dX12_init_210 : decode cX12_init 210 = .ok (.aload_n 0, 1) := by decide +kernel
theorem dX12_init_211 : decode cX12_init 211 = .ok (.iconst 4, 1) := by decide +kernel
theorem dX12_init_212 : decode cX12_init 212 = .ok (.newarray .boolean, 2) := by decide +kernel
theorem dX12_init_214 : decode cX12_init 214 = .ok (.putfield 89, 3) := by decide +kernel
theorem dX12_init_217 : decode cX12_init 217 = .ok (.aload_n 0, 1) := by decide +kernel
theorem dX12_init_218 : decode cX12_init 218 = .ok (.iconst 4, 1) := by decide +kernel
theorem dX12_init_219 : decode cX12_init 219 = .ok (.newarray .int, 2) := by decide +kernel
theorem dX12_init_221 : decode cX12_init 221 = .ok (.putfield 93, 3) := by decide +kernel
theorem dX12_init_224 : decode cX12_init 224 = .ok (.aload_n 0, 1) := by decide +kernel
theorem dX12_init_225 : decode cX12_init 225 = .ok (.iconst 4, 1) := by decide +kernel
theorem dX12_init_226 : decode cX12_init 226 = .ok (.newarray .int, 2) := by decide +kernel
theorem dX12_init_228 : decode cX12_init 228 = .ok (.putfield 96, 3) := by decide +kernel
theorem dX12_init_231 : decode cX12_init 231 = .ok (.aload_n 0, 1) := by decide +kernel
theorem dX12_init_232 : decode cX12_init 232 = .ok (.sipush 192, 3) := by decide +kernel
theorem dX12_init_235 : decode cX12_init 235 = .ok (.newarray .int, 2) := by decide +kernel
theorem dX12_init_237 : decode cX12_init 237 = .ok (.putfield 99, 3) := by decide +kernel
theorem dX12_init_240 : decode cX12_init 240 = .ok (.aload_n 0, 1) := by decide +kernel
theorem dX12_init_241 : decode cX12_init 241 = .ok (.bipush 48, 2) := by decide +kernel
theorem dX12_init_243 : decode cX12_init 243 = .ok (.newarray .int, 2) := by decide +kernel
theorem dX12_init_245 : decode cX12_init 245 = .ok (.putfield 102, 3) := by decide +kernel
theorem dX12_init_248 : decode cX12_init 248 = .ok (.iconst 0, 1) := by decide +kernel
theorem dX12_init_249 : decode cX12_init 249 = .ok (.istore_n 1, 1) := by decide +kernel
theorem dX12_init_250 : decode cX12_init 250 = .ok (.iload_n 1, 1) := by decide +kernel
theorem dX12_init_251 : decode cX12_init 251 = .ok (.bipush 9, 2) := by decide +kernel
theorem dX12_init_253 : decode cX12_init 253 = .ok (.if_icmp .ge 17, 3) := by decide +kernel
theorem dX12_init_256 : decode cX12_init 256 = .ok (.aload_n 0, 1) := by decide +kernel
theorem dX12_init_257 : decode cX12_init 257 = .ok (.getfield 80, 3) := by decide +kernel
theorem dX12_init_260 : decode cX12_init 260 = .ok (.iload_n 1, 1) := by decide +kernel
theorem dX12_init_261 : decode cX12_init 261 = .ok (.bipush 8, 2) := by decide +kernel
theorem dX12_init_263 : decode cX12_init 263 = .ok (.iastore, 1) := by decide +kernel
theorem dX12_init_264 : decode cX12_init 264 = .ok (.iinc 1 1, 3) := by decide +kernel
theorem dX12_init_267 : decode cX12_init 267 = .ok (.goto (-17), 3) := by decide +kernel
theorem dX12_init_270 : decode cX12_init 270 = .ok (.return_, 1) := by decide +kernel
theorem dX12_in_0 : decode cX12_in 0 = .ok (.iload_n 0, 1) := by decide +kernel
theorem dX12_in_1 : decode cX12_in 1 = .ok (.iload_n 1, 1) := by decide +kernel
theorem dX12_in_2 : decode cX12_in 2 = .ok (.if_icmp .lt 12, 3) := by decide +kernel
theorem dX12_in_5 : decode cX12_in 5 = .ok (.iload_n 0, 1) := by decide +kernel
theorem dX12_in_6 : decode cX12_in 6 = .ok (.iload_n 2, 1) := by decide +kernel
theorem dX12_in_7 : decode cX12_in 7 = .ok (.if_icmp .gt 7, 3) := by decide +kernel
theorem dX12_in_10 : decode cX12_in 10 = .ok (.iconst 1, 1) := by decide +kernel
theorem dX12_in_11 : decode cX12_in 11 = .ok (.goto 4, 3) := by decide +kernel
theorem dX12_in_14 : decode cX12_in 14 = .ok (.iconst 0, 1) := by decide +kernel
theorem dX12_in_15 : decode cX12_in 15 = .ok (.ireturn, 1) := by decide +kernel
theorem dX12_amount_0 : decode cX12_amount 0 = .ok (.iload_n 0, 1) := by decide +kernel
theorem dX12_amount_1 : decode cX12_amount 1 = .ok (.ifCond .ge 8, 3) := by decide +kernel
theorem dX12_amount_4 : decode cX12_amount 4 = .ok (.iload_n 0, 1) := by decide +kernel
theorem dX12_amount_5 : decode cX12_amount 5 = .ok (.ineg, 1) := by decide +kernel
theorem dX12_amount_6 : decode cX12_amount 6 = .ok (.goto 4, 3) := by decide +kernel
theorem dX12_amount_9 : decode cX12_amount 9 = .ok (.iload_n 0, 1) := by decide +kernel
theorem dX12_amount_10 : decode cX12_amount 10 = .ok (.ireturn, 1) := by decide +kernel
theorem dX12_ones_0 : decode cX12_ones 0 = .ok (.iconst 0, 1) := by decide +kernel
theorem dX12_ones_1 : decode cX12_ones 1 = .ok (.istore_n 1, 1) := by decide +kernel
theorem dX12_ones_2 : decode cX12_ones 2 = .ok (.iconst 0, 1) := by decide +kernel
theorem dX12_ones_3 : decode cX12_ones 3 = .ok (.istore_n 2, 1) := by decide +kernel
theorem dX12_ones_4 : decode cX12_ones 4 = .ok (.iload_n 2, 1) := by decide +kernel
theorem dX12_ones_5 : decode cX12_ones 5 = .ok (.bipush 14, 2) := by decide +kernel
theorem dX12_ones_7 : decode cX12_ones 7 = .ok (.if_icmp .ge 17, 3) := by decide +kernel
theorem dX12_ones_10 : decode cX12_ones 10 = .ok (.iload_n 1, 1) := by decide +kernel
theorem dX12_ones_11 : decode cX12_ones 11 = .ok (.iload_n 0, 1) := by decide +kernel
theorem dX12_ones_12 : decode cX12_ones 12 = .ok (.iload_n 2, 1) := by decide +kernel
theorem dX12_ones_13 : decode cX12_ones 13 = .ok (.ishr, 1) := by decide +kernel
theorem dX12_ones_14 : decode cX12_ones 14 = .ok (.iconst 1, 1) := by decide +kernel
theorem dX12_ones_15 : decode cX12_ones 15 = .ok (.iand, 1) := by decide +kernel
theorem dX12_ones_16 : decode cX12_ones 16 = .ok (.iadd, 1) := by decide +kernel
theorem dX12_ones_17 : decode cX12_ones 17 = .ok (.istore_n 1, 1) := by decide +kernel
theorem dX12_ones_18 : decode cX12_ones 18 = .ok (.iinc 2 1, 3) := by decide +kernel
theorem dX12_ones_21 : decode cX12_ones 21 = .ok (.goto (-17), 3) := by decide +kernel
theorem dX12_ones_24 : decode cX12_ones 24 = .ok (.iload_n 1, 1) := by decide +kernel
theorem dX12_ones_25 : decode cX12_ones 25 = .ok (.ireturn, 1) := by decide +kernel
theorem dX12_has_0 : decode cX12_has 0 = .ok (.iload_n 0, 1) := by decide +kernel
theorem dX12_has_1 : decode cX12_has 1 = .ok (.iload_n 1, 1) := by decide +kernel
theorem dX12_has_2 : decode cX12_has 2 = .ok (.ishr, 1) := by decide +kernel
theorem dX12_has_3 : decode cX12_has 3 = .ok (.iconst 1, 1) := by decide +kernel
theorem dX12_has_4 : decode cX12_has 4 = .ok (.iand, 1) := by decide +kernel
theorem dX12_has_5 : decode cX12_has 5 = .ok (.iconst 1, 1) := by decide +kernel
theorem dX12_has_6 : decode cX12_has 6 = .ok (.if_icmp .ne 7, 3) := by decide +kernel
theorem dX12_has_9 : decode cX12_has 9 = .ok (.iconst 1, 1) := by decide +kernel
theorem dX12_has_10 : decode cX12_has 10 = .ok (.goto 4, 3) := by decide +kernel
theorem dX12_has_13 : decode cX12_has 13 = .ok (.iconst 0, 1) := by decide +kernel
theorem dX12_has_14 : decode cX12_has 14 = .ok (.ireturn, 1) := by decide +kernel
theorem dX12_no_0 : decode cX12_no 0 = .ok (.ldc2_w 105, 3) := by decide +kernel
theorem dX12_no_3 : decode cX12_no 3 = .ok (.iload_n 0, 1) := by decide +kernel
theorem dX12_no_4 : decode cX12_no 4 = .ok (.i2l, 1) := by decide +kernel
theorem dX12_no_5 : decode cX12_no 5 = .ok (.lsub, 1) := by decide +kernel
theorem dX12_no_6 : decode cX12_no 6 = .ok (.lreturn, 1) := by decide +kernel
theorem dX12_lowest_0 : decode cX12_lowest 0 = .ok (.lload_n 0, 1) := by decide +kernel
theorem dX12_lowest_1 : decode cX12_lowest 1 = .ok (.lconst 0, 1) := by decide +kernel
theorem dX12_lowest_2 : decode cX12_lowest 2 = .ok (.lcmp, 1) := by decide +kernel
theorem dX12_lowest_3 : decode cX12_lowest 3 = .ok (.ifCond .ge 8, 3) := by decide +kernel
theorem dX12_lowest_6 : decode cX12_lowest 6 = .ok (.lload_n 0, 1) := by decide +kernel
theorem dX12_lowest_7 : decode cX12_lowest 7 = .ok (.lneg, 1) := by decide +kernel
theorem dX12_lowest_8 : decode cX12_lowest 8 = .ok (.goto 4, 3) := by decide +kernel
theorem dX12_lowest_11 : decode cX12_lowest 11 = .ok (.lload_n 0, 1) := by decide +kernel
theorem dX12_lowest_12 : decode cX12_lowest 12 = .ok (.lstore 5, 2) := by decide +kernel
theorem dX12_lowest_14 : decode cX12_lowest 14 = .ok (.lload_n 2, 1) := by decide +kernel
theorem dX12_lowest_15 : decode cX12_lowest 15 = .ok (.lstore 7, 2) := by decide +kernel
theorem dX12_lowest_17 : decode cX12_lowest 17 = .ok (.lload 7, 2) := by decide +kernel
theorem dX12_lowest_19 : decode cX12_lowest 19 = .ok (.lconst 0, 1) := by decide +kernel
theorem dX12_lowest_20 : decode cX12_lowest 20 = .ok (.lcmp, 1) := by decide +kernel
theorem dX12_lowest_21 : decode cX12_lowest 21 = .ok (.ifCond .eq 21, 3) := by decide +kernel
theorem dX12_lowest_24 : decode cX12_lowest 24 = .ok (.lload 5, 2) := by decide +kernel
theorem dX12_lowest_26 : decode cX12_lowest 26 = .ok (.lload 7, 2) := by decide +kernel
theorem dX12_lowest_28 : decode cX12_lowest 28 = .ok (.lrem, 1) := by decide +kernel
theorem dX12_lowest_29 : decode cX12_lowest 29 = .ok (.lstore 9, 2) := by decide +kernel
theorem dX12_lowest_31 : decode cX12_lowest 31 = .ok (.lload 7, 2) := by decide +kernel
theorem dX12_lowest_33 : decode cX12_lowest 33 = .ok (.lstore 5, 2) := by decide +kernel
theorem dX12_lowest_35 : decode cX12_lowest 35 = .ok (.lload 9, 2) := by decide +kernel
theorem dX12_lowest_37 : decode cX12_lowest 37 = .ok (.lstore 7, 2) := by decide +kernel
theorem dX12_lowest_39 : decode cX12_lowest 39 = .ok (.goto (-22), 3) := by decide +kernel
theorem dX12_lowest_42 : decode cX12_lowest 42 = .ok (.iload 4, 2) := by decide +kernel
theorem dX12_lowest_44 : decode cX12_lowest 44 = .ok (.ifCond .ne 10, 3) := by decide +kernel
theorem dX12_lowest_47 : decode cX12_lowest 47 = .ok (.lload_n 0, 1) := by decide +kernel
theorem dX12_lowest_48 : decode cX12_lowest 48 = .ok (.lload 5, 2) := by decide +kernel
theorem dX12_lowest_50 : decode cX12_lowest 50 = .ok (.ldiv, 1) := by decide +kernel
theorem dX12_lowest_51 : decode cX12_lowest 51 = .ok (.goto 7, 3) := by decide +kernel
theorem dX12_lowest_54 : decode cX12_lowest 54 = .ok (.lload_n 2, 1) := by decide +kernel
theorem dX12_lowest_55 : decode cX12_lowest 55 = .ok (.lload 5, 2) := by decide +kernel
theorem dX12_lowest_57 : decode cX12_lowest 57 = .ok (.ldiv, 1) := by decide +kernel
theorem dX12_lowest_58 : decode cX12_lowest 58 = .ok (.lreturn, 1) := by decide +kernel
theorem dX12_isPeople_0 : decode cX12_isPeople 0 = .ok (.iload_n 0, 1) := by decide +kernel
theorem dX12_isPeople_1 : decode cX12_isPeople 1 = .ok (.iconst 0, 1) := by decide +kernel
theorem dX12_isPeople_2 : decode cX12_isPeople 2 = .ok (.iconst 3, 1) := by decide +kernel
theorem dX12_isPeople_3 : decode cX12_isPeople 3 = .ok (.invokestatic 107, 3) := by decide +kernel
theorem dX12_isPeople_6 : decode cX12_isPeople 6 = .ok (.ireturn, 1) := by decide +kernel
theorem dX12_isAny_0 : decode cX12_isAny 0 = .ok (.iload_n 0, 1) := by decide +kernel
theorem dX12_isAny_1 : decode cX12_isAny 1 = .ok (.iconst (-1), 1) := by decide +kernel
theorem dX12_isAny_2 : decode cX12_isAny 2 = .ok (.iconst 3, 1) := by decide +kernel
theorem dX12_isAny_3 : decode cX12_isAny 3 = .ok (.invokestatic 107, 3) := by decide +kernel
theorem dX12_isAny_6 : decode cX12_isAny 6 = .ok (.ireturn, 1) := by decide +kernel
theorem dX12_isKind_0 : decode cX12_isKind 0 = .ok (.iload_n 0, 1) := by decide +kernel
theorem dX12_isKind_1 : decode cX12_isKind 1 = .ok (.iconst 0, 1) := by decide +kernel
theorem dX12_isKind_2 : decode cX12_isKind 2 = .ok (.iconst 3, 1) := by decide +kernel
theorem dX12_isKind_3 : decode cX12_isKind 3 = .ok (.invokestatic 107, 3) := by decide +kernel
theorem dX12_isKind_6 : decode cX12_isKind 6 = .ok (.ireturn, 1) := by decide +kernel
theorem dX12_isOffer_0 : decode cX12_isOffer 0 = .ok (.iload_n 0, 1) := by decide +kernel
theorem dX12_isOffer_1 : decode cX12_isOffer 1 = .ok (.iconst 0, 1) := by decide +kernel
theorem dX12_isOffer_2 : decode cX12_isOffer 2 = .ok (.bipush 10, 2) := by decide +kernel
theorem dX12_isOffer_4 : decode cX12_isOffer 4 = .ok (.invokestatic 107, 3) := by decide +kernel
theorem dX12_isOffer_7 : decode cX12_isOffer 7 = .ok (.ireturn, 1) := by decide +kernel
theorem dX12_pairMore_0 : decode cX12_pairMore 0 = .ok (.iload_n 1, 1) := by decide +kernel
theorem dX12_pairMore_1 : decode cX12_pairMore 1 = .ok (.invokestatic 111, 3) := by decide +kernel
theorem dX12_pairMore_4 : decode cX12_pairMore 4 = .ok (.ifCond .eq 51, 3) := by decide +kernel
theorem dX12_pairMore_7 : decode cX12_pairMore 7 = .ok (.iload_n 2, 1) := by decide +kernel
theorem dX12_pairMore_8 : decode cX12_pairMore 8 = .ok (.invokestatic 115, 3) := by decide +kernel
theorem dX12_pairMore_11 : decode cX12_pairMore 11 = .ok (.ifCond .eq 44, 3) := by decide +kernel
theorem dX12_pairMore_14 : decode cX12_pairMore 14 = .ok (.iload_n 3, 1) := by decide +kernel
theorem dX12_pairMore_15 : decode cX12_pairMore 15 = .ok (.invokestatic 118, 3) := by decide +kernel
theorem dX12_pairMore_18 : decode cX12_pairMore 18 = .ok (.ifCond .eq 37, 3) := by decide +kernel
theorem dX12_pairMore_21 : decode cX12_pairMore 21 = .ok (.iload 4, 2) := by decide +kernel
theorem dX12_pairMore_23 : decode cX12_pairMore 23 = .ok (.iload_n 2, 1) := by decide +kernel
theorem dX12_pairMore_24 : decode cX12_pairMore 24 = .ok (.iconst 1, 1) := by decide +kernel
theorem dX12_pairMore_25 : decode cX12_pairMore 25 = .ok (.if_icmp .ne 7, 3) := by decide +kernel
theorem dX12_pairMore_28 : decode cX12_pairMore 28 = .ok (.iconst 1, 1) := by decide +kernel
theorem dX12_pairMore_29 : decode cX12_pairMore 29 = .ok (.goto 4, 3) := by decide +kernel
theorem dX12_pairMore_32 : decode cX12_pairMore 32 = .ok (.iconst 0, 1) := by decide +kernel
theorem dX12_pairMore_33 : decode cX12_pairMore 33 = .ok (.iconst 1, 1) := by decide +kernel
theorem dX12_pairMore_34 : decode cX12_pairMore 34 = .ok (.invokestatic 107, 3) := by decide +kernel
theorem dX12_pairMore_37 : decode cX12_pairMore 37 = .ok (.ifCond .eq 18, 3) := by decide +kernel
theorem dX12_pairMore_40 : decode cX12_pairMore 40 = .ok (.iload 5, 2) := by decide +kernel
theorem dX12_pairMore_42 : decode cX12_pairMore 42 = .ok (.aload_n 0, 1) := by decide +kernel
theorem dX12_pairMore_43 : decode cX12_pairMore 43 = .ok (.getfield 121, 3) := by decide +kernel
theorem dX12_pairMore_46 : decode cX12_pairMore 46 = .ok (.sipush 999, 3) := by decide +kernel
theorem dX12_pairMore_49 : decode cX12_pairMore 49 = .ok (.invokestatic 107, 3) := by decide +kernel
theorem dX12_pairMore_52 : decode cX12_pairMore 52 = .ok (.ifCond .ne 6, 3) := by decide +kernel
theorem dX12_pairMore_55 : decode cX12_pairMore 55 = .ok (.bipush (-2), 2) := by decide +kernel
theorem dX12_pairMore_57 : decode cX12_pairMore 57 = .ok (.ireturn, 1) := by decide +kernel
theorem dX12_pairMore_58 : decode cX12_pairMore 58 = .ok (.aload_n 0, 1) := by decide +kernel
theorem dX12_pairMore_59 : decode cX12_pairMore 59 = .ok (.getfield 124, 3) := by decide +kernel
theorem dX12_pairMore_62 : decode cX12_pairMore 62 = .ok (.bipush 60, 2) := by decide +kernel
theorem dX12_pairMore_64 : decode cX12_pairMore 64 = .ok (.if_icmp .ne 6, 3) := by decide +kernel
theorem dX12_pairMore_67 : decode cX12_pairMore 67 = .ok (.bipush (-4), 2) := by decide +kernel
theorem dX12_pairMore_69 : decode cX12_pairMore 69 = .ok (.ireturn, 1) := by decide +kernel
theorem dX12_pairMore_70 : decode cX12_pairMore 70 = .ok (.aload_n 0, 1) := by decide +kernel
theorem dX12_pairMore_71 : decode cX12_pairMore 71 = .ok (.getfield 7, 3) := by decide +kernel
theorem dX12_pairMore_74 : decode cX12_pairMore 74 = .ok (.aload_n 0, 1) := by decide +kernel
theorem dX12_pairMore_75 : decode cX12_pairMore 75 = .ok (.getfield 124, 3) := by decide +kernel
theorem dX12_pairMore_78 : decode cX12_pairMore 78 = .ok (.iload_n 1, 1) := by decide +kernel
theorem dX12_pairMore_79 : decode cX12_pairMore 79 = .ok (.iastore, 1) := by decide +kernel
theorem dX12_pairMore_80 : decode cX12_pairMore 80 = .ok (.aload_n 0, 1) := by decide +kernel
theorem dX12_pairMore_81 : decode cX12_pairMore 81 = .ok (.getfield 13, 3) := by decide +kernel
theorem dX12_pairMore_84 : decode cX12_pairMore 84 = .ok (.aload_n 0, 1) := by decide +kernel
theorem dX12_pairMore_85 : decode cX12_pairMore 85 = .ok (.getfield 124, 3) := by decide +kernel
theorem dX12_pairMore_88 : decode cX12_pairMore 88 = .ok (.iload_n 2, 1) := by decide +kernel
theorem dX12_pairMore_89 : decode cX12_pairMore 89 = .ok (.iastore, 1) := by decide +kernel
theorem dX12_pairMore_90 : decode cX12_pairMore 90 = .ok (.aload_n 0, 1) := by decide +kernel
theorem dX12_pairMore_91 : decode cX12_pairMore 91 = .ok (.getfield 16, 3) := by decide +kernel
theorem dX12_pairMore_94 : decode cX12_pairMore 94 = .ok (.aload_n 0, 1) := by decide +kernel
theorem dX12_pairMore_95 : decode cX12_pairMore 95 = .ok (.getfield 124, 3) := by decide +kernel
theorem dX12_pairMore_98 : decode cX12_pairMore 98 = .ok (.iload_n 3, 1) := by decide +kernel
theorem dX12_pairMore_99 : decode cX12_pairMore 99 = .ok (.iastore, 1) := by decide +kernel
theorem dX12_pairMore_100 : decode cX12_pairMore 100 = .ok (.aload_n 0, 1) := by decide +kernel
theorem dX12_pairMore_101 : decode cX12_pairMore 101 = .ok (.getfield 19, 3) := by decide +kernel
theorem dX12_pairMore_104 : decode cX12_pairMore 104 = .ok (.aload_n 0, 1) := by decide +kernel
theorem dX12_pairMore_105 : decode cX12_pairMore 105 = .ok (.getfield 124, 3) := by decide +kernel
theorem dX12_pairMore_108 : decode cX12_pairMore 108 = .ok (.iload 4, 2) := by decide +kernel
theorem dX12_pairMore_110 : decode cX12_pairMore 110 = .ok (.iastore, 1) := by decide +kernel
theorem dX12_pairMore_111 : decode cX12_pairMore 111 = .ok (.aload_n 0, 1) := by decide +kernel
theorem dX12_pairMore_112 : decode cX12_pairMore 112 = .ok (.getfield 22, 3) := by decide +kernel
theorem dX12_pairMore_115 : decode cX12_pairMore 115 = .ok (.aload_n 0, 1) := by decide +kernel
theorem dX12_pairMore_116 : decode cX12_pairMore 116 = .ok (.getfield 124, 3) := by decide +kernel
theorem dX12_pairMore_119 : decode cX12_pairMore 119 = .ok (.iload 5, 2) := by decide +kernel
theorem dX12_pairMore_121 : decode cX12_pairMore 121 = .ok (.iastore, 1) := by decide +kernel
theorem dX12_pairMore_122 : decode cX12_pairMore 122 = .ok (.aload_n 0, 1) := by decide +kernel
theorem dX12_pairMore_123 : decode cX12_pairMore 123 = .ok (.getfield 25, 3) := by decide +kernel
theorem dX12_pairMore_126 : decode cX12_pairMore 126 = .ok (.aload_n 0, 1) := by decide +kernel
theorem dX12_pairMore_127 : decode cX12_pairMore 127 = .ok (.getfield 124, 3) := by decide +kernel
theorem dX12_pairMore_130 : decode cX12_pairMore 130 = .ok (.iconst (-1), 1) := by decide +kernel
theorem dX12_pairMore_131 : decode cX12_pairMore 131 = .ok (.iastore, 1) := by decide +kernel
theorem dX12_pairMore_132 : decode cX12_pairMore 132 = .ok (.aload_n 0, 1) := by decide +kernel
theorem dX12_pairMore_133 : decode cX12_pairMore 133 = .ok (.iload 5, 2) := by decide +kernel
theorem dX12_pairMore_135 : decode cX12_pairMore 135 = .ok (.putfield 121, 3) := by decide +kernel
theorem dX12_pairMore_138 : decode cX12_pairMore 138 = .ok (.aload_n 0, 1) := by decide +kernel
theorem dX12_pairMore_139 : decode cX12_pairMore 139 = .ok (.dup, 1) := by decide +kernel
theorem dX12_pairMore_140 : decode cX12_pairMore 140 = .ok (.getfield 124, 3) := by decide +kernel
theorem dX12_pairMore_143 : decode cX12_pairMore 143 = .ok (.iconst 1, 1) := by decide +kernel
theorem dX12_pairMore_144 : decode cX12_pairMore 144 = .ok (.iadd, 1) := by decide +kernel
theorem dX12_pairMore_145 : decode cX12_pairMore 145 = .ok (.putfield 124, 3) := by decide +kernel
theorem dX12_pairMore_148 : decode cX12_pairMore 148 = .ok (.aload_n 0, 1) := by decide +kernel
theorem dX12_pairMore_149 : decode cX12_pairMore 149 = .ok (.getfield 124, 3) := by decide +kernel
theorem dX12_pairMore_152 : decode cX12_pairMore 152 = .ok (.iconst 1, 1) := by decide +kernel
theorem dX12_pairMore_153 : decode cX12_pairMore 153 = .ok (.isub, 1) := by decide +kernel
theorem dX12_pairMore_154 : decode cX12_pairMore 154 = .ok (.ireturn, 1) := by decide +kernel
theorem dX12_pair_0 : decode cX12_pair 0 = .ok (.aload_n 0, 1) := by decide +kernel
theorem dX12_pair_1 : decode cX12_pair 1 = .ok (.iload_n 1, 1) := by decide +kernel
theorem dX12_pair_2 : decode cX12_pair 2 = .ok (.iload_n 2, 1) := by decide +kernel
theorem dX12_pair_3 : decode cX12_pair 3 = .ok (.iload_n 3, 1) := by decide +kernel
theorem dX12_pair_4 : decode cX12_pair 4 = .ok (.iload 4, 2) := by decide +kernel
theorem dX12_pair_6 : decode cX12_pair 6 = .ok (.iload 5, 2) := by decide +kernel
theorem dX12_pair_8 : decode cX12_pair 8 = .ok (.invokevirtual 127, 3) := by decide +kernel
theorem dX12_pair_11 : decode cX12_pair 11 = .ok (.ireturn, 1) := by decide +kernel
theorem dX12_read_0 : decode cX12_read 0 = .ok (.iload_n 1, 1) := by decide +kernel
theorem dX12_read_1 : decode cX12_read 1 = .ok (.invokestatic 131, 3) := by decide +kernel
theorem dX12_read_4 : decode cX12_read 4 = .ok (.ifCond .eq 32, 3) := by decide +kernel
theorem dX12_read_7 : decode cX12_read 7 = .ok (.iload_n 2, 1) := by decide +kernel
theorem dX12_read_8 : decode cX12_read 8 = .ok (.invokestatic 111, 3) := by decide +kernel
theorem dX12_read_11 : decode cX12_read 11 = .ok (.ifCond .eq 25, 3) := by decide +kernel
theorem dX12_read_14 : decode cX12_read 14 = .ok (.iload_n 3, 1) := by decide +kernel
theorem dX12_read_15 : decode cX12_read 15 = .ok (.invokestatic 115, 3) := by decide +kernel
theorem dX12_read_18 : decode cX12_read 18 = .ok (.ifCond .eq 18, 3) := by decide +kernel
theorem dX12_read_21 : decode cX12_read 21 = .ok (.iload 4, 2) := by decide +kernel
theorem dX12_read_23 : decode cX12_read 23 = .ok (.aload_n 0, 1) := by decide +kernel
theorem dX12_read_24 : decode cX12_read 24 = .ok (.getfield 121, 3) := by decide +kernel
theorem dX12_read_27 : decode cX12_read 27 = .ok (.sipush 999, 3) := by decide +kernel
theorem dX12_read_30 : decode cX12_read 30 = .ok (.invokestatic 107, 3) := by decide +kernel
theorem dX12_read_33 : decode cX12_read 33 = .ok (.ifCond .ne 6, 3) := by decide +kernel
theorem dX12_read_36 : decode cX12_read 36 = .ok (.bipush (-2), 2) := by decide +kernel
theorem dX12_read_38 : decode cX12_read 38 = .ok (.ireturn, 1) := by decide +kernel
theorem dX12_read_39 : decode cX12_read 39 = .ok (.aload_n 0, 1) := by decide +kernel
theorem dX12_read_40 : decode cX12_read 40 = .ok (.getfield 89, 3) := by decide +kernel
theorem dX12_read_43 : decode cX12_read 43 = .ok (.iload_n 1, 1) := by decide +kernel
theorem dX12_read_44 : decode cX12_read 44 = .ok (.baload, 1) := by decide +kernel
theorem dX12_read_45 : decode cX12_read 45 = .ok (.ifCond .ne 9, 3) := by decide +kernel
theorem dX12_read_48 : decode cX12_read 48 = .ok (.aload_n 0, 1) := by decide +kernel
theorem dX12_read_49 : decode cX12_read 49 = .ok (.iconst 1, 1) := by decide +kernel
theorem dX12_read_50 : decode cX12_read 50 = .ok (.invokevirtual 134, 3) := by decide +kernel
theorem dX12_read_53 : decode cX12_read 53 = .ok (.ireturn, 1) := by decide +kernel
theorem dX12_read_54 : decode cX12_read 54 = .ok (.iconst 0, 1) := by decide +kernel
theorem dX12_read_55 : decode cX12_read 55 = .ok (.istore 5, 2) := by decide +kernel
theorem dX12_read_57 : decode cX12_read 57 = .ok (.iconst 2, 1) := by decide +kernel
theorem dX12_read_58 : decode cX12_read 58 = .ok (.iload 5, 2) := by decide +kernel
theorem dX12_read_60 : decode cX12_read 60 = .ok (.imul, 1) := by decide +kernel
theorem dX12_read_61 : decode cX12_read 61 = .ok (.iconst 1, 1) := by decide +kernel
theorem dX12_read_62 : decode cX12_read 62 = .ok (.iadd, 1) := by decide +kernel
theorem dX12_read_63 : decode cX12_read 63 = .ok (.aload_n 0, 1) := by decide +kernel
theorem dX12_read_64 : decode cX12_read 64 = .ok (.getfield 96, 3) := by decide +kernel
theorem dX12_read_67 : decode cX12_read 67 = .ok (.iload_n 1, 1) := by decide +kernel
theorem dX12_read_68 : decode cX12_read 68 = .ok (.iaload, 1) := by decide +kernel
theorem dX12_read_69 : decode cX12_read 69 = .ok (.if_icmp .ge 53, 3) := by decide +kernel
theorem dX12_read_72 : decode cX12_read 72 = .ok (.aload_n 0, 1) := by decide +kernel
theorem dX12_read_73 : decode cX12_read 73 = .ok (.iload_n 2, 1) := by decide +kernel
theorem dX12_read_74 : decode cX12_read 74 = .ok (.iload_n 3, 1) := by decide +kernel
theorem dX12_read_75 : decode cX12_read 75 = .ok (.aload_n 0, 1) := by decide +kernel
theorem dX12_read_76 : decode cX12_read 76 = .ok (.getfield 99, 3) := by decide +kernel
theorem dX12_read_79 : decode cX12_read 79 = .ok (.bipush 48, 2) := by decide +kernel
theorem dX12_read_81 : decode cX12_read 81 = .ok (.iload_n 1, 1) := by decide +kernel
theorem dX12_read_82 : decode cX12_read 82 = .ok (.imul, 1) := by decide +kernel
theorem dX12_read_83 : decode cX12_read 83 = .ok (.iconst 2, 1) := by decide +kernel
theorem dX12_read_84 : decode cX12_read 84 = .ok (.iload 5, 2) := by decide +kernel
theorem dX12_read_86 : decode cX12_read 86 = .ok (.imul, 1) := by decide +kernel
theorem dX12_read_87 : decode cX12_read 87 = .ok (.iadd, 1) := by decide +kernel
theorem dX12_read_88 : decode cX12_read 88 = .ok (.iaload, 1) := by decide +kernel
theorem dX12_read_89 : decode cX12_read 89 = .ok (.aload_n 0, 1) := by decide +kernel
theorem dX12_read_90 : decode cX12_read 90 = .ok (.getfield 99, 3) := by decide +kernel
theorem dX12_read_93 : decode cX12_read 93 = .ok (.bipush 48, 2) := by decide +kernel
theorem dX12_read_95 : decode cX12_read 95 = .ok (.iload_n 1, 1) := by decide +kernel
theorem dX12_read_96 : decode cX12_read 96 = .ok (.imul, 1) := by decide +kernel
theorem dX12_read_97 : decode cX12_read 97 = .ok (.iconst 2, 1) := by decide +kernel
theorem dX12_read_98 : decode cX12_read 98 = .ok (.iload 5, 2) := by decide +kernel
theorem dX12_read_100 : decode cX12_read 100 = .ok (.imul, 1) := by decide +kernel
theorem dX12_read_101 : decode cX12_read 101 = .ok (.iadd, 1) := by decide +kernel
theorem dX12_read_102 : decode cX12_read 102 = .ok (.iconst 1, 1) := by decide +kernel
theorem dX12_read_103 : decode cX12_read 103 = .ok (.iadd, 1) := by decide +kernel
theorem dX12_read_104 : decode cX12_read 104 = .ok (.iaload, 1) := by decide +kernel
theorem dX12_read_105 : decode cX12_read 105 = .ok (.iload 4, 2) := by decide +kernel
theorem dX12_read_107 : decode cX12_read 107 = .ok (.invokevirtual 127, 3) := by decide +kernel
theorem dX12_read_110 : decode cX12_read 110 = .ok (.ifCond .ge 6, 3) := by decide +kernel
theorem dX12_read_113 : decode cX12_read 113 = .ok (.iload 5, 2) := by decide +kernel
theorem dX12_read_115 : decode cX12_read 115 = .ok (.ireturn, 1) := by decide +kernel
theorem dX12_read_116 : decode cX12_read 116 = .ok (.iinc 5 1, 3) := by decide +kernel
theorem dX12_read_119 : decode cX12_read 119 = .ok (.goto (-62), 3) := by decide +kernel
theorem dX12_read_122 : decode cX12_read 122 = .ok (.iload 5, 2) := by decide +kernel
theorem dX12_read_124 : decode cX12_read 124 = .ok (.ireturn, 1) := by decide +kernel
theorem dX12_takeBack_0 : decode cX12_takeBack 0 = .ok (.iload_n 1, 1) := by decide +kernel
theorem dX12_takeBack_1 : decode cX12_takeBack 1 = .ok (.iconst 0, 1) := by decide +kernel
theorem dX12_takeBack_2 : decode cX12_takeBack 2 = .ok (.aload_n 0, 1) := by decide +kernel
theorem dX12_takeBack_3 : decode cX12_takeBack 3 = .ok (.getfield 124, 3) := by decide +kernel
theorem dX12_takeBack_6 : decode cX12_takeBack 6 = .ok (.iconst 1, 1) := by decide +kernel
theorem dX12_takeBack_7 : decode cX12_takeBack 7 = .ok (.isub, 1) := by decide +kernel
theorem dX12_takeBack_8 : decode cX12_takeBack 8 = .ok (.invokestatic 107, 3) := by decide +kernel
theorem dX12_takeBack_11 : decode cX12_takeBack 11 = .ok (.ifCond .eq 17, 3) := by decide +kernel
theorem dX12_takeBack_14 : decode cX12_takeBack 14 = .ok (.iload_n 2, 1) := by decide +kernel
theorem dX12_takeBack_15 : decode cX12_takeBack 15 = .ok (.aload_n 0, 1) := by decide +kernel
theorem dX12_takeBack_16 : decode cX12_takeBack 16 = .ok (.getfield 121, 3) := by decide +kernel
theorem dX12_takeBack_19 : decode cX12_takeBack 19 = .ok (.sipush 999, 3) := by decide +kernel
theorem dX12_takeBack_22 : decode cX12_takeBack 22 = .ok (.invokestatic 107, 3) := by decide +kernel
theorem dX12_takeBack_25 : decode cX12_takeBack 25 = .ok (.ifCond .ne 6, 3) := by decide +kernel
theorem dX12_takeBack_28 : decode cX12_takeBack 28 = .ok (.bipush (-2), 2) := by decide +kernel
theorem dX12_takeBack_30 : decode cX12_takeBack 30 = .ok (.ireturn, 1) := by decide +kernel
theorem dX12_takeBack_31 : decode cX12_takeBack 31 = .ok (.aload_n 0, 1) := by decide +kernel
theorem dX12_takeBack_32 : decode cX12_takeBack 32 = .ok (.getfield 25, 3) := by decide +kernel
theorem dX12_takeBack_35 : decode cX12_takeBack 35 = .ok (.iload_n 1, 1) := by decide +kernel
theorem dX12_takeBack_36 : decode cX12_takeBack 36 = .ok (.iaload, 1) := by decide +kernel
theorem dX12_takeBack_37 : decode cX12_takeBack 37 = .ok (.iconst (-1), 1) := by decide +kernel
theorem dX12_takeBack_38 : decode cX12_takeBack 38 = .ok (.if_icmp .eq 6, 3) := by decide +kernel
theorem dX12_takeBack_41 : decode cX12_takeBack 41 = .ok (.bipush (-3), 2) := by decide +kernel
theorem dX12_takeBack_43 : decode cX12_takeBack 43 = .ok (.ireturn, 1) := by decide +kernel
theorem dX12_takeBack_44 : decode cX12_takeBack 44 = .ok (.aload_n 0, 1) := by decide +kernel
theorem dX12_takeBack_45 : decode cX12_takeBack 45 = .ok (.getfield 25, 3) := by decide +kernel
theorem dX12_takeBack_48 : decode cX12_takeBack 48 = .ok (.iload_n 1, 1) := by decide +kernel
theorem dX12_takeBack_49 : decode cX12_takeBack 49 = .ok (.iload_n 2, 1) := by decide +kernel
theorem dX12_takeBack_50 : decode cX12_takeBack 50 = .ok (.iastore, 1) := by decide +kernel
theorem dX12_takeBack_51 : decode cX12_takeBack 51 = .ok (.aload_n 0, 1) := by decide +kernel
theorem dX12_takeBack_52 : decode cX12_takeBack 52 = .ok (.iload_n 2, 1) := by decide +kernel
theorem dX12_takeBack_53 : decode cX12_takeBack 53 = .ok (.putfield 121, 3) := by decide +kernel
theorem dX12_takeBack_56 : decode cX12_takeBack 56 = .ok (.iconst 1, 1) := by decide +kernel
theorem dX12_takeBack_57 : decode cX12_takeBack 57 = .ok (.ireturn, 1) := by decide +kernel
theorem dX12_asOf_0 : decode cX12_asOf 0 = .ok (.iload_n 1, 1) := by decide +kernel
theorem dX12_asOf_1 : decode cX12_asOf 1 = .ok (.iconst 0, 1) := by decide +kernel
theorem dX12_asOf_2 : decode cX12_asOf 2 = .ok (.sipush 999, 3) := by decide +kernel
theorem dX12_asOf_5 : decode cX12_asOf 5 = .ok (.invokestatic 107, 3) := by decide +kernel
theorem dX12_asOf_8 : decode cX12_asOf 8 = .ok (.ifCond .ne 6, 3) := by decide +kernel
theorem dX12_asOf_11 : decode cX12_asOf 11 = .ok (.bipush (-2), 2) := by decide +kernel
theorem dX12_asOf_13 : decode cX12_asOf 13 = .ok (.ireturn, 1) := by decide +kernel
theorem dX12_asOf_14 : decode cX12_asOf 14 = .ok (.aload_n 0, 1) := by decide +kernel
theorem dX12_asOf_15 : decode cX12_asOf 15 = .ok (.getfield 28, 3) := by decide +kernel
theorem dX12_asOf_18 : decode cX12_asOf 18 = .ok (.istore_n 2, 1) := by decide +kernel
theorem dX12_asOf_19 : decode cX12_asOf 19 = .ok (.aload_n 0, 1) := by decide +kernel
theorem dX12_asOf_20 : decode cX12_asOf 20 = .ok (.iload_n 1, 1) := by decide +kernel
theorem dX12_asOf_21 : decode cX12_asOf 21 = .ok (.putfield 28, 3) := by decide +kernel
theorem dX12_asOf_24 : decode cX12_asOf 24 = .ok (.iload_n 2, 1) := by decide +kernel
theorem dX12_asOf_25 : decode cX12_asOf 25 = .ok (.ireturn, 1) := by decide +kernel
theorem dX12_counts_0 : decode cX12_counts 0 = .ok (.aload_n 0, 1) := by decide +kernel
theorem dX12_counts_1 : decode cX12_counts 1 = .ok (.getfield 22, 3) := by decide +kernel
theorem dX12_counts_4 : decode cX12_counts 4 = .ok (.iload_n 1, 1) := by decide +kernel
theorem dX12_counts_5 : decode cX12_counts 5 = .ok (.iaload, 1) := by decide +kernel
theorem dX12_counts_6 : decode cX12_counts 6 = .ok (.aload_n 0, 1) := by decide +kernel
theorem dX12_counts_7 : decode cX12_counts 7 = .ok (.getfield 28, 3) := by decide +kernel
theorem dX12_counts_10 : decode cX12_counts 10 = .ok (.if_icmp .gt 30, 3) := by decide +kernel
theorem dX12_counts_13 : decode cX12_counts 13 = .ok (.aload_n 0, 1) := by decide +kernel
theorem dX12_counts_14 : decode cX12_counts 14 = .ok (.getfield 25, 3) := by decide +kernel
theorem dX12_counts_17 : decode cX12_counts 17 = .ok (.iload_n 1, 1) := by decide +kernel
theorem dX12_counts_18 : decode cX12_counts 18 = .ok (.iaload, 1) := by decide +kernel
theorem dX12_counts_19 : decode cX12_counts 19 = .ok (.iconst (-1), 1) := by decide +kernel
theorem dX12_counts_20 : decode cX12_counts 20 = .ok (.if_icmp .eq 16, 3) := by decide +kernel
theorem dX12_counts_23 : decode cX12_counts 23 = .ok (.aload_n 0, 1) := by decide +kernel
theorem dX12_counts_24 : decode cX12_counts 24 = .ok (.getfield 25, 3) := by decide +kernel
theorem dX12_counts_27 : decode cX12_counts 27 = .ok (.iload_n 1, 1) := by decide +kernel
theorem dX12_counts_28 : decode cX12_counts 28 = .ok (.iaload, 1) := by decide +kernel
theorem dX12_counts_29 : decode cX12_counts 29 = .ok (.aload_n 0, 1) := by decide +kernel
theorem dX12_counts_30 : decode cX12_counts 30 = .ok (.getfield 28, 3) := by decide +kernel
theorem dX12_counts_33 : decode cX12_counts 33 = .ok (.if_icmp .le 7, 3) := by decide +kernel
theorem dX12_counts_36 : decode cX12_counts 36 = .ok (.iconst 1, 1) := by decide +kernel
theorem dX12_counts_37 : decode cX12_counts 37 = .ok (.goto 4, 3) := by decide +kernel
theorem dX12_counts_40 : decode cX12_counts 40 = .ok (.iconst 0, 1) := by decide +kernel
theorem dX12_counts_41 : decode cX12_counts 41 = .ok (.ireturn, 1) := by decide +kernel
theorem dX12_isOf_0 : decode cX12_isOf 0 = .ok (.aload_n 0, 1) := by decide +kernel
theorem dX12_isOf_1 : decode cX12_isOf 1 = .ok (.iload_n 1, 1) := by decide +kernel
theorem dX12_isOf_2 : decode cX12_isOf 2 = .ok (.invokevirtual 138, 3) := by decide +kernel
theorem dX12_isOf_5 : decode cX12_isOf 5 = .ok (.ifCond .eq 32, 3) := by decide +kernel
theorem dX12_isOf_8 : decode cX12_isOf 8 = .ok (.iload_n 2, 1) := by decide +kernel
theorem dX12_isOf_9 : decode cX12_isOf 9 = .ok (.iconst (-1), 1) := by decide +kernel
theorem dX12_isOf_10 : decode cX12_isOf 10 = .ok (.if_icmp .eq 13, 3) := by decide +kernel
theorem dX12_isOf_13 : decode cX12_isOf 13 = .ok (.aload_n 0, 1) := by decide +kernel
theorem dX12_isOf_14 : decode cX12_isOf 14 = .ok (.getfield 7, 3) := by decide +kernel
theorem dX12_isOf_17 : decode cX12_isOf 17 = .ok (.iload_n 1, 1) := by decide +kernel
theorem dX12_isOf_18 : decode cX12_isOf 18 = .ok (.iaload, 1) := by decide +kernel
theorem dX12_isOf_19 : decode cX12_isOf 19 = .ok (.iload_n 2, 1) := by decide +kernel
theorem dX12_isOf_20 : decode cX12_isOf 20 = .ok (.if_icmp .ne 17, 3) := by decide +kernel
theorem dX12_isOf_23 : decode cX12_isOf 23 = .ok (.aload_n 0, 1) := by decide +kernel
theorem dX12_isOf_24 : decode cX12_isOf 24 = .ok (.getfield 13, 3) := by decide +kernel
theorem dX12_isOf_27 : decode cX12_isOf 27 = .ok (.iload_n 1, 1) := by decide +kernel
theorem dX12_isOf_28 : decode cX12_isOf 28 = .ok (.iaload, 1) := by decide +kernel
theorem dX12_isOf_29 : decode cX12_isOf 29 = .ok (.iload_n 3, 1) := by decide +kernel
theorem dX12_isOf_30 : decode cX12_isOf 30 = .ok (.if_icmp .ne 7, 3) := by decide +kernel
theorem dX12_isOf_33 : decode cX12_isOf 33 = .ok (.iconst 1, 1) := by decide +kernel
theorem dX12_isOf_34 : decode cX12_isOf 34 = .ok (.goto 4, 3) := by decide +kernel
theorem dX12_isOf_37 : decode cX12_isOf 37 = .ok (.iconst 0, 1) := by decide +kernel
theorem dX12_isOf_38 : decode cX12_isOf 38 = .ok (.ireturn, 1) := by decide +kernel
theorem dX12_countOf_0 : decode cX12_countOf 0 = .ok (.iconst 0, 1) := by decide +kernel
theorem dX12_countOf_1 : decode cX12_countOf 1 = .ok (.istore_n 3, 1) := by decide +kernel
theorem dX12_countOf_2 : decode cX12_countOf 2 = .ok (.iconst 0, 1) := by decide +kernel
theorem dX12_countOf_3 : decode cX12_countOf 3 = .ok (.istore 4, 2) := by decide +kernel
theorem dX12_countOf_5 : decode cX12_countOf 5 = .ok (.iload 4, 2) := by decide +kernel
theorem dX12_countOf_7 : decode cX12_countOf 7 = .ok (.aload_n 0, 1) := by decide +kernel
theorem dX12_countOf_8 : decode cX12_countOf 8 = .ok (.getfield 124, 3) := by decide +kernel
theorem dX12_countOf_11 : decode cX12_countOf 11 = .ok (.if_icmp .ge 28, 3) := by decide +kernel
theorem dX12_countOf_14 : decode cX12_countOf 14 = .ok (.iload_n 3, 1) := by decide +kernel
theorem dX12_countOf_15 : decode cX12_countOf 15 = .ok (.aload_n 0, 1) := by decide +kernel
theorem dX12_countOf_16 : decode cX12_countOf 16 = .ok (.iload 4, 2) := by decide +kernel
theorem dX12_countOf_18 : decode cX12_countOf 18 = .ok (.iload_n 1, 1) := by decide +kernel
theorem dX12_countOf_19 : decode cX12_countOf 19 = .ok (.iload_n 2, 1) := by decide +kernel
theorem dX12_countOf_20 : decode cX12_countOf 20 = .ok (.invokevirtual 141, 3) := by decide +kernel
theorem dX12_countOf_23 : decode cX12_countOf 23 = .ok (.ifCond .eq 7, 3) := by decide +kernel
theorem dX12_countOf_26 : decode cX12_countOf 26 = .ok (.iconst 1, 1) := by decide +kernel
theorem dX12_countOf_27 : decode cX12_countOf 27 = .ok (.goto 4, 3) := by decide +kernel
theorem dX12_countOf_30 : decode cX12_countOf 30 = .ok (.iconst 0, 1) := by decide +kernel
theorem dX12_countOf_31 : decode cX12_countOf 31 = .ok (.iadd, 1) := by decide +kernel
theorem dX12_countOf_32 : decode cX12_countOf 32 = .ok (.istore_n 3, 1) := by decide +kernel
theorem dX12_countOf_33 : decode cX12_countOf 33 = .ok (.iinc 4 1, 3) := by decide +kernel
theorem dX12_countOf_36 : decode cX12_countOf 36 = .ok (.goto (-31), 3) := by decide +kernel
theorem dX12_countOf_39 : decode cX12_countOf 39 = .ok (.iload_n 3, 1) := by decide +kernel
theorem dX12_countOf_40 : decode cX12_countOf 40 = .ok (.ireturn, 1) := by decide +kernel
theorem dX12_sumOf_0 : decode cX12_sumOf 0 = .ok (.iconst 0, 1) := by decide +kernel
theorem dX12_sumOf_1 : decode cX12_sumOf 1 = .ok (.istore_n 3, 1) := by decide +kernel
theorem dX12_sumOf_2 : decode cX12_sumOf 2 = .ok (.iconst 0, 1) := by decide +kernel
theorem dX12_sumOf_3 : decode cX12_sumOf 3 = .ok (.istore 4, 2) := by decide +kernel
theorem dX12_sumOf_5 : decode cX12_sumOf 5 = .ok (.iload 4, 2) := by decide +kernel
theorem dX12_sumOf_7 : decode cX12_sumOf 7 = .ok (.aload_n 0, 1) := by decide +kernel
theorem dX12_sumOf_8 : decode cX12_sumOf 8 = .ok (.getfield 124, 3) := by decide +kernel
theorem dX12_sumOf_11 : decode cX12_sumOf 11 = .ok (.if_icmp .ge 34, 3) := by decide +kernel
theorem dX12_sumOf_14 : decode cX12_sumOf 14 = .ok (.iload_n 3, 1) := by decide +kernel
theorem dX12_sumOf_15 : decode cX12_sumOf 15 = .ok (.aload_n 0, 1) := by decide +kernel
theorem dX12_sumOf_16 : decode cX12_sumOf 16 = .ok (.iload 4, 2) := by decide +kernel
theorem dX12_sumOf_18 : decode cX12_sumOf 18 = .ok (.iload_n 1, 1) := by decide +kernel
theorem dX12_sumOf_19 : decode cX12_sumOf 19 = .ok (.iload_n 2, 1) := by decide +kernel
theorem dX12_sumOf_20 : decode cX12_sumOf 20 = .ok (.invokevirtual 141, 3) := by decide +kernel
theorem dX12_sumOf_23 : decode cX12_sumOf 23 = .ok (.ifCond .eq 13, 3) := by decide +kernel
theorem dX12_sumOf_26 : decode cX12_sumOf 26 = .ok (.aload_n 0, 1) := by decide +kernel
theorem dX12_sumOf_27 : decode cX12_sumOf 27 = .ok (.getfield 16, 3) := by decide +kernel
theorem dX12_sumOf_30 : decode cX12_sumOf 30 = .ok (.iload 4, 2) := by decide +kernel
theorem dX12_sumOf_32 : decode cX12_sumOf 32 = .ok (.iaload, 1) := by decide +kernel
theorem dX12_sumOf_33 : decode cX12_sumOf 33 = .ok (.goto 4, 3) := by decide +kernel
theorem dX12_sumOf_36 : decode cX12_sumOf 36 = .ok (.iconst 0, 1) := by decide +kernel
theorem dX12_sumOf_37 : decode cX12_sumOf 37 = .ok (.iadd, 1) := by decide +kernel
theorem dX12_sumOf_38 : decode cX12_sumOf 38 = .ok (.istore_n 3, 1) := by decide +kernel
theorem dX12_sumOf_39 : decode cX12_sumOf 39 = .ok (.iinc 4 1, 3) := by decide +kernel
theorem dX12_sumOf_42 : decode cX12_sumOf 42 = .ok (.goto (-37), 3) := by decide +kernel
theorem dX12_sumOf_45 : decode cX12_sumOf 45 = .ok (.iload_n 3, 1) := by decide +kernel
theorem dX12_sumOf_46 : decode cX12_sumOf 46 = .ok (.ireturn, 1) := by decide +kernel
theorem dX12_noesOf_0 : decode cX12_noesOf 0 = .ok (.iconst 0, 1) := by decide +kernel
theorem dX12_noesOf_1 : decode cX12_noesOf 1 = .ok (.istore_n 3, 1) := by decide +kernel
theorem dX12_noesOf_2 : decode cX12_noesOf 2 = .ok (.iconst 0, 1) := by decide +kernel
theorem dX12_noesOf_3 : decode cX12_noesOf 3 = .ok (.istore 4, 2) := by decide +kernel
theorem dX12_noesOf_5 : decode cX12_noesOf 5 = .ok (.iload 4, 2) := by decide +kernel
theorem dX12_noesOf_7 : decode cX12_noesOf 7 = .ok (.aload_n 0, 1) := by decide +kernel
theorem dX12_noesOf_8 : decode cX12_noesOf 8 = .ok (.getfield 124, 3) := by decide +kernel
theorem dX12_noesOf_11 : decode cX12_noesOf 11 = .ok (.if_icmp .ge 36, 3) := by decide +kernel
theorem dX12_noesOf_14 : decode cX12_noesOf 14 = .ok (.iload_n 3, 1) := by decide +kernel
theorem dX12_noesOf_15 : decode cX12_noesOf 15 = .ok (.aload_n 0, 1) := by decide +kernel
theorem dX12_noesOf_16 : decode cX12_noesOf 16 = .ok (.iload 4, 2) := by decide +kernel
theorem dX12_noesOf_18 : decode cX12_noesOf 18 = .ok (.iload_n 1, 1) := by decide +kernel
theorem dX12_noesOf_19 : decode cX12_noesOf 19 = .ok (.iload_n 2, 1) := by decide +kernel
theorem dX12_noesOf_20 : decode cX12_noesOf 20 = .ok (.invokevirtual 141, 3) := by decide +kernel
theorem dX12_noesOf_23 : decode cX12_noesOf 23 = .ok (.ifCond .eq 15, 3) := by decide +kernel
theorem dX12_noesOf_26 : decode cX12_noesOf 26 = .ok (.iconst 1, 1) := by decide +kernel
theorem dX12_noesOf_27 : decode cX12_noesOf 27 = .ok (.aload_n 0, 1) := by decide +kernel
theorem dX12_noesOf_28 : decode cX12_noesOf 28 = .ok (.getfield 19, 3) := by decide +kernel
theorem dX12_noesOf_31 : decode cX12_noesOf 31 = .ok (.iload 4, 2) := by decide +kernel
theorem dX12_noesOf_33 : decode cX12_noesOf 33 = .ok (.iaload, 1) := by decide +kernel
theorem dX12_noesOf_34 : decode cX12_noesOf 34 = .ok (.isub, 1) := by decide +kernel
theorem dX12_noesOf_35 : decode cX12_noesOf 35 = .ok (.goto 4, 3) := by decide +kernel
theorem dX12_noesOf_38 : decode cX12_noesOf 38 = .ok (.iconst 0, 1) := by decide +kernel
theorem dX12_noesOf_39 : decode cX12_noesOf 39 = .ok (.iadd, 1) := by decide +kernel
theorem dX12_noesOf_40 : decode cX12_noesOf 40 = .ok (.istore_n 3, 1) := by decide +kernel
theorem dX12_noesOf_41 : decode cX12_noesOf 41 = .ok (.iinc 4 1, 3) := by decide +kernel
theorem dX12_noesOf_44 : decode cX12_noesOf 44 = .ok (.goto (-39), 3) := by decide +kernel
theorem dX12_noesOf_47 : decode cX12_noesOf 47 = .ok (.iload_n 3, 1) := by decide +kernel
theorem dX12_noesOf_48 : decode cX12_noesOf 48 = .ok (.ireturn, 1) := by decide +kernel
theorem dX12_middleOf_0 : decode cX12_middleOf 0 = .ok (.aload_n 0, 1) := by decide +kernel
theorem dX12_middleOf_1 : decode cX12_middleOf 1 = .ok (.iload_n 1, 1) := by decide +kernel
theorem dX12_middleOf_2 : decode cX12_middleOf 2 = .ok (.iload_n 2, 1) := by decide +kernel
theorem dX12_middleOf_3 : decode cX12_middleOf 3 = .ok (.invokevirtual 144, 3) := by decide +kernel
theorem dX12_middleOf_6 : decode cX12_middleOf 6 = .ok (.iconst 1, 1) := by decide +kernel
theorem dX12_middleOf_7 : decode cX12_middleOf 7 = .ok (.iadd, 1) := by decide +kernel
theorem dX12_middleOf_8 : decode cX12_middleOf 8 = .ok (.iconst 2, 1) := by decide +kernel
theorem dX12_middleOf_9 : decode cX12_middleOf 9 = .ok (.idiv, 1) := by decide +kernel
theorem dX12_middleOf_10 : decode cX12_middleOf 10 = .ok (.istore_n 3, 1) := by decide +kernel
theorem dX12_middleOf_11 : decode cX12_middleOf 11 = .ok (.iconst 0, 1) := by decide +kernel
theorem dX12_middleOf_12 : decode cX12_middleOf 12 = .ok (.istore 4, 2) := by decide +kernel
theorem dX12_middleOf_14 : decode cX12_middleOf 14 = .ok (.iload 4, 2) := by decide +kernel
theorem dX12_middleOf_16 : decode cX12_middleOf 16 = .ok (.bipush 11, 2) := by decide +kernel
theorem dX12_middleOf_18 : decode cX12_middleOf 18 = .ok (.if_icmp .ge 69, 3) := by decide +kernel
theorem dX12_middleOf_21 : decode cX12_middleOf 21 = .ok (.iload_n 3, 1) := by decide +kernel
theorem dX12_middleOf_22 : decode cX12_middleOf 22 = .ok (.ifCond .le 65, 3) := by decide +kernel
theorem dX12_middleOf_25 : decode cX12_middleOf 25 = .ok (.iconst 0, 1) := by decide +kernel
theorem dX12_middleOf_26 : decode cX12_middleOf 26 = .ok (.istore 5, 2) := by decide +kernel
theorem dX12_middleOf_28 : decode cX12_middleOf 28 = .ok (.iload 5, 2) := by decide +kernel
theorem dX12_middleOf_30 : decode cX12_middleOf 30 = .ok (.aload_n 0, 1) := by decide +kernel
theorem dX12_middleOf_31 : decode cX12_middleOf 31 = .ok (.getfield 124, 3) := by decide +kernel
theorem dX12_middleOf_34 : decode cX12_middleOf 34 = .ok (.if_icmp .ge 40, 3) := by decide +kernel
theorem dX12_middleOf_37 : decode cX12_middleOf 37 = .ok (.iload_n 3, 1) := by decide +kernel
theorem dX12_middleOf_38 : decode cX12_middleOf 38 = .ok (.aload_n 0, 1) := by decide +kernel
theorem dX12_middleOf_39 : decode cX12_middleOf 39 = .ok (.iload 5, 2) := by decide +kernel
theorem dX12_middleOf_41 : decode cX12_middleOf 41 = .ok (.iload_n 1, 1) := by decide +kernel
theorem dX12_middleOf_42 : decode cX12_middleOf 42 = .ok (.iload_n 2, 1) := by decide +kernel
theorem dX12_middleOf_43 : decode cX12_middleOf 43 = .ok (.invokevirtual 141, 3) := by decide +kernel
theorem dX12_middleOf_46 : decode cX12_middleOf 46 = .ok (.ifCond .eq 19, 3) := by decide +kernel
theorem dX12_middleOf_49 : decode cX12_middleOf 49 = .ok (.aload_n 0, 1) := by decide +kernel
theorem dX12_middleOf_50 : decode cX12_middleOf 50 = .ok (.getfield 16, 3) := by decide +kernel
theorem dX12_middleOf_53 : decode cX12_middleOf 53 = .ok (.iload 5, 2) := by decide +kernel
theorem dX12_middleOf_55 : decode cX12_middleOf 55 = .ok (.iaload, 1) := by decide +kernel
theorem dX12_middleOf_56 : decode cX12_middleOf 56 = .ok (.iload 4, 2) := by decide +kernel
theorem dX12_middleOf_58 : decode cX12_middleOf 58 = .ok (.if_icmp .ne 7, 3) := by decide +kernel
theorem dX12_middleOf_61 : decode cX12_middleOf 61 = .ok (.iconst 1, 1) := by decide +kernel
theorem dX12_middleOf_62 : decode cX12_middleOf 62 = .ok (.goto 4, 3) := by decide +kernel
theorem dX12_middleOf_65 : decode cX12_middleOf 65 = .ok (.iconst 0, 1) := by decide +kernel
theorem dX12_middleOf_66 : decode cX12_middleOf 66 = .ok (.isub, 1) := by decide +kernel
theorem dX12_middleOf_67 : decode cX12_middleOf 67 = .ok (.istore_n 3, 1) := by decide +kernel
theorem dX12_middleOf_68 : decode cX12_middleOf 68 = .ok (.iinc 5 1, 3) := by decide +kernel
theorem dX12_middleOf_71 : decode cX12_middleOf 71 = .ok (.goto (-43), 3) := by decide +kernel
theorem dX12_middleOf_74 : decode cX12_middleOf 74 = .ok (.iload_n 3, 1) := by decide +kernel
theorem dX12_middleOf_75 : decode cX12_middleOf 75 = .ok (.ifCond .gt 6, 3) := by decide +kernel
theorem dX12_middleOf_78 : decode cX12_middleOf 78 = .ok (.iload 4, 2) := by decide +kernel
theorem dX12_middleOf_80 : decode cX12_middleOf 80 = .ok (.ireturn, 1) := by decide +kernel
theorem dX12_middleOf_81 : decode cX12_middleOf 81 = .ok (.iinc 4 1, 3) := by decide +kernel
theorem dX12_middleOf_84 : decode cX12_middleOf 84 = .ok (.goto (-70), 3) := by decide +kernel
theorem dX12_middleOf_87 : decode cX12_middleOf 87 = .ok (.bipush (-3), 2) := by decide +kernel
theorem dX12_middleOf_89 : decode cX12_middleOf 89 = .ok (.ireturn, 1) := by decide +kernel
theorem dX12_manyNow_0 : decode cX12_manyNow 0 = .ok (.iload_n 3, 1) := by decide +kernel
theorem dX12_manyNow_1 : decode cX12_manyNow 1 = .ok (.ifCond .ne 12, 3) := by decide +kernel
theorem dX12_manyNow_4 : decode cX12_manyNow 4 = .ok (.aload_n 0, 1) := by decide +kernel
theorem dX12_manyNow_5 : decode cX12_manyNow 5 = .ok (.iload_n 1, 1) := by decide +kernel
theorem dX12_manyNow_6 : decode cX12_manyNow 6 = .ok (.iload_n 2, 1) := by decide +kernel
theorem dX12_manyNow_7 : decode cX12_manyNow 7 = .ok (.invokevirtual 144, 3) := by decide +kernel
theorem dX12_manyNow_10 : decode cX12_manyNow 10 = .ok (.goto 23, 3) := by decide +kernel
theorem dX12_manyNow_13 : decode cX12_manyNow 13 = .ok (.iload_n 3, 1) := by decide +kernel
theorem dX12_manyNow_14 : decode cX12_manyNow 14 = .ok (.iconst 1, 1) := by decide +kernel
theorem dX12_manyNow_15 : decode cX12_manyNow 15 = .ok (.if_icmp .ne 12, 3) := by decide +kernel
theorem dX12_manyNow_18 : decode cX12_manyNow 18 = .ok (.aload_n 0, 1) := by decide +kernel
theorem dX12_manyNow_19 : decode cX12_manyNow 19 = .ok (.iload_n 1, 1) := by decide +kernel
theorem dX12_manyNow_20 : decode cX12_manyNow 20 = .ok (.iload_n 2, 1) := by decide +kernel
theorem dX12_manyNow_21 : decode cX12_manyNow 21 = .ok (.invokevirtual 148, 3) := by decide +kernel
theorem dX12_manyNow_24 : decode cX12_manyNow 24 = .ok (.goto 9, 3) := by decide +kernel
theorem dX12_manyNow_27 : decode cX12_manyNow 27 = .ok (.aload_n 0, 1) := by decide +kernel
theorem dX12_manyNow_28 : decode cX12_manyNow 28 = .ok (.iload_n 1, 1) := by decide +kernel
theorem dX12_manyNow_29 : decode cX12_manyNow 29 = .ok (.iload_n 2, 1) := by decide +kernel
theorem dX12_manyNow_30 : decode cX12_manyNow 30 = .ok (.invokevirtual 151, 3) := by decide +kernel
theorem dX12_manyNow_33 : decode cX12_manyNow 33 = .ok (.ireturn, 1) := by decide +kernel
theorem dX12_many_0 : decode cX12_many 0 = .ok (.iload_n 1, 1) := by decide +kernel
theorem dX12_many_1 : decode cX12_many 1 = .ok (.invokestatic 154, 3) := by decide +kernel
theorem dX12_many_4 : decode cX12_many 4 = .ok (.ifCond .eq 29, 3) := by decide +kernel
theorem dX12_many_7 : decode cX12_many 7 = .ok (.iload_n 2, 1) := by decide +kernel
theorem dX12_many_8 : decode cX12_many 8 = .ok (.invokestatic 115, 3) := by decide +kernel
theorem dX12_many_11 : decode cX12_many 11 = .ok (.ifCond .eq 22, 3) := by decide +kernel
theorem dX12_many_14 : decode cX12_many 14 = .ok (.iload_n 3, 1) := by decide +kernel
theorem dX12_many_15 : decode cX12_many 15 = .ok (.iconst 0, 1) := by decide +kernel
theorem dX12_many_16 : decode cX12_many 16 = .ok (.iconst 2, 1) := by decide +kernel
theorem dX12_many_17 : decode cX12_many 17 = .ok (.invokestatic 107, 3) := by decide +kernel
theorem dX12_many_20 : decode cX12_many 20 = .ok (.ifCond .eq 13, 3) := by decide +kernel
theorem dX12_many_23 : decode cX12_many 23 = .ok (.aload_n 0, 1) := by decide +kernel
theorem dX12_many_24 : decode cX12_many 24 = .ok (.iload_n 1, 1) := by decide +kernel
theorem dX12_many_25 : decode cX12_many 25 = .ok (.iload_n 2, 1) := by decide +kernel
theorem dX12_many_26 : decode cX12_many 26 = .ok (.iload_n 3, 1) := by decide +kernel
theorem dX12_many_27 : decode cX12_many 27 = .ok (.invokevirtual 157, 3) := by decide +kernel
theorem dX12_many_30 : decode cX12_many 30 = .ok (.goto 5, 3) := by decide +kernel
theorem dX12_many_33 : decode cX12_many 33 = .ok (.bipush (-2), 2) := by decide +kernel
theorem dX12_many_35 : decode cX12_many 35 = .ok (.ireturn, 1) := by decide +kernel
theorem dX12_meanNow_0 : decode cX12_meanNow 0 = .ok (.aload_n 0, 1) := by decide +kernel
theorem dX12_meanNow_1 : decode cX12_meanNow 1 = .ok (.iload_n 1, 1) := by decide +kernel
theorem dX12_meanNow_2 : decode cX12_meanNow 2 = .ok (.iload_n 2, 1) := by decide +kernel
theorem dX12_meanNow_3 : decode cX12_meanNow 3 = .ok (.invokevirtual 144, 3) := by decide +kernel
theorem dX12_meanNow_6 : decode cX12_meanNow 6 = .ok (.istore 4, 2) := by decide +kernel
theorem dX12_meanNow_8 : decode cX12_meanNow 8 = .ok (.iload 4, 2) := by decide +kernel
theorem dX12_meanNow_10 : decode cX12_meanNow 10 = .ok (.ifCond .ne 11, 3) := by decide +kernel
theorem dX12_meanNow_13 : decode cX12_meanNow 13 = .ok (.bipush (-3), 2) := by decide +kernel
theorem dX12_meanNow_15 : decode cX12_meanNow 15 = .ok (.invokestatic 161, 3) := by decide +kernel
theorem dX12_meanNow_18 : decode cX12_meanNow 18 = .ok (.goto 17, 3) := by decide +kernel
theorem dX12_meanNow_21 : decode cX12_meanNow 21 = .ok (.aload_n 0, 1) := by decide +kernel
theorem dX12_meanNow_22 : decode cX12_meanNow 22 = .ok (.iload_n 1, 1) := by decide +kernel
theorem dX12_meanNow_23 : decode cX12_meanNow 23 = .ok (.iload_n 2, 1) := by decide +kernel
theorem dX12_meanNow_24 : decode cX12_meanNow 24 = .ok (.invokevirtual 165, 3) := by decide +kernel
theorem dX12_meanNow_27 : decode cX12_meanNow 27 = .ok (.i2l, 1) := by decide +kernel
theorem dX12_meanNow_28 : decode cX12_meanNow 28 = .ok (.iload 4, 2) := by decide +kernel
theorem dX12_meanNow_30 : decode cX12_meanNow 30 = .ok (.i2l, 1) := by decide +kernel
theorem dX12_meanNow_31 : decode cX12_meanNow 31 = .ok (.iload_n 3, 1) := by decide +kernel
theorem dX12_meanNow_32 : decode cX12_meanNow 32 = .ok (.invokestatic 168, 3) := by decide +kernel
theorem dX12_meanNow_35 : decode cX12_meanNow 35 = .ok (.lreturn, 1) := by decide +kernel
theorem dX12_mean_0 : decode cX12_mean 0 = .ok (.iload_n 1, 1) := by decide +kernel
theorem dX12_mean_1 : decode cX12_mean 1 = .ok (.invokestatic 154, 3) := by decide +kernel
theorem dX12_mean_4 : decode cX12_mean 4 = .ok (.ifCond .eq 29, 3) := by decide +kernel
theorem dX12_mean_7 : decode cX12_mean 7 = .ok (.iload_n 2, 1) := by decide +kernel
theorem dX12_mean_8 : decode cX12_mean 8 = .ok (.invokestatic 115, 3) := by decide +kernel
theorem dX12_mean_11 : decode cX12_mean 11 = .ok (.ifCond .eq 22, 3) := by decide +kernel
theorem dX12_mean_14 : decode cX12_mean 14 = .ok (.iload_n 3, 1) := by decide +kernel
theorem dX12_mean_15 : decode cX12_mean 15 = .ok (.iconst 0, 1) := by decide +kernel
theorem dX12_mean_16 : decode cX12_mean 16 = .ok (.iconst 1, 1) := by decide +kernel
theorem dX12_mean_17 : decode cX12_mean 17 = .ok (.invokestatic 107, 3) := by decide +kernel
theorem dX12_mean_20 : decode cX12_mean 20 = .ok (.ifCond .eq 13, 3) := by decide +kernel
theorem dX12_mean_23 : decode cX12_mean 23 = .ok (.aload_n 0, 1) := by decide +kernel
theorem dX12_mean_24 : decode cX12_mean 24 = .ok (.iload_n 1, 1) := by decide +kernel
theorem dX12_mean_25 : decode cX12_mean 25 = .ok (.iload_n 2, 1) := by decide +kernel
theorem dX12_mean_26 : decode cX12_mean 26 = .ok (.iload_n 3, 1) := by decide +kernel
theorem dX12_mean_27 : decode cX12_mean 27 = .ok (.invokevirtual 172, 3) := by decide +kernel
theorem dX12_mean_30 : decode cX12_mean 30 = .ok (.goto 8, 3) := by decide +kernel
theorem dX12_mean_33 : decode cX12_mean 33 = .ok (.bipush (-2), 2) := by decide +kernel
theorem dX12_mean_35 : decode cX12_mean 35 = .ok (.invokestatic 161, 3) := by decide +kernel
theorem dX12_mean_38 : decode cX12_mean 38 = .ok (.lreturn, 1) := by decide +kernel
theorem dX12_refused_0 : decode cX12_refused 0 = .ok (.iload_n 1, 1) := by decide +kernel
theorem dX12_refused_1 : decode cX12_refused 1 = .ok (.invokestatic 154, 3) := by decide +kernel
theorem dX12_refused_4 : decode cX12_refused 4 = .ok (.ifCond .eq 27, 3) := by decide +kernel
theorem dX12_refused_7 : decode cX12_refused 7 = .ok (.iload_n 2, 1) := by decide +kernel
theorem dX12_refused_8 : decode cX12_refused 8 = .ok (.invokestatic 115, 3) := by decide +kernel
theorem dX12_refused_11 : decode cX12_refused 11 = .ok (.ifCond .eq 20, 3) := by decide +kernel
theorem dX12_refused_14 : decode cX12_refused 14 = .ok (.iload_n 3, 1) := by decide +kernel
theorem dX12_refused_15 : decode cX12_refused 15 = .ok (.invokestatic 118, 3) := by decide +kernel
theorem dX12_refused_18 : decode cX12_refused 18 = .ok (.ifCond .eq 13, 3) := by decide +kernel
theorem dX12_refused_21 : decode cX12_refused 21 = .ok (.iload 4, 2) := by decide +kernel
theorem dX12_refused_23 : decode cX12_refused 23 = .ok (.iconst 0, 1) := by decide +kernel
theorem dX12_refused_24 : decode cX12_refused 24 = .ok (.iconst 1, 1) := by decide +kernel
theorem dX12_refused_25 : decode cX12_refused 25 = .ok (.invokestatic 107, 3) := by decide +kernel
theorem dX12_refused_28 : decode cX12_refused 28 = .ok (.ifCond .ne 9, 3) := by decide +kernel
theorem dX12_refused_31 : decode cX12_refused 31 = .ok (.bipush (-2), 2) := by decide +kernel
theorem dX12_refused_33 : decode cX12_refused 33 = .ok (.invokestatic 161, 3) := by decide +kernel
theorem dX12_refused_36 : decode cX12_refused 36 = .ok (.lreturn, 1) := by decide +kernel
theorem dX12_refused_37 : decode cX12_refused 37 = .ok (.iconst 0, 1) := by decide +kernel
theorem dX12_refused_38 : decode cX12_refused 38 = .ok (.istore 5, 2) := by decide +kernel
theorem dX12_refused_40 : decode cX12_refused 40 = .ok (.iconst 0, 1) := by decide +kernel
theorem dX12_refused_41 : decode cX12_refused 41 = .ok (.istore 6, 2) := by decide +kernel
theorem dX12_refused_43 : decode cX12_refused 43 = .ok (.iconst 0, 1) := by decide +kernel
theorem dX12_refused_44 : decode cX12_refused 44 = .ok (.istore 7, 2) := by decide +kernel
theorem dX12_refused_46 : decode cX12_refused 46 = .ok (.iload 7, 2) := by decide +kernel
theorem dX12_refused_48 : decode cX12_refused 48 = .ok (.aload_n 0, 1) := by decide +kernel
theorem dX12_refused_49 : decode cX12_refused 49 = .ok (.getfield 124, 3) := by decide +kernel
theorem dX12_refused_52 : decode cX12_refused 52 = .ok (.if_icmp .ge 76, 3) := by decide +kernel
theorem dX12_refused_55 : decode cX12_refused 55 = .ok (.aload_n 0, 1) := by decide +kernel
theorem dX12_refused_56 : decode cX12_refused 56 = .ok (.iload 7, 2) := by decide +kernel
theorem dX12_refused_58 : decode cX12_refused 58 = .ok (.iload_n 1, 1) := by decide +kernel
theorem dX12_refused_59 : decode cX12_refused 59 = .ok (.iload_n 2, 1) := by decide +kernel
theorem dX12_refused_60 : decode cX12_refused 60 = .ok (.invokevirtual 141, 3) := by decide +kernel
theorem dX12_refused_63 : decode cX12_refused 63 = .ok (.ifCond .eq 18, 3) := by decide +kernel
theorem dX12_refused_66 : decode cX12_refused 66 = .ok (.aload_n 0, 1) := by decide +kernel
theorem dX12_refused_67 : decode cX12_refused 67 = .ok (.getfield 16, 3) := by decide +kernel
theorem dX12_refused_70 : decode cX12_refused 70 = .ok (.iload 7, 2) := by decide +kernel
theorem dX12_refused_72 : decode cX12_refused 72 = .ok (.iaload, 1) := by decide +kernel
theorem dX12_refused_73 : decode cX12_refused 73 = .ok (.iload_n 3, 1) := by decide +kernel
theorem dX12_refused_74 : decode cX12_refused 74 = .ok (.if_icmp .ne 7, 3) := by decide +kernel
theorem dX12_refused_77 : decode cX12_refused 77 = .ok (.iconst 1, 1) := by decide +kernel
theorem dX12_refused_78 : decode cX12_refused 78 = .ok (.goto 4, 3) := by decide +kernel
theorem dX12_refused_81 : decode cX12_refused 81 = .ok (.iconst 0, 1) := by decide +kernel
theorem dX12_refused_82 : decode cX12_refused 82 = .ok (.istore 8, 2) := by decide +kernel
theorem dX12_refused_84 : decode cX12_refused 84 = .ok (.iload 5, 2) := by decide +kernel
theorem dX12_refused_86 : decode cX12_refused 86 = .ok (.iload 8, 2) := by decide +kernel
theorem dX12_refused_88 : decode cX12_refused 88 = .ok (.ifCond .eq 7, 3) := by decide +kernel
theorem dX12_refused_91 : decode cX12_refused 91 = .ok (.iconst 1, 1) := by decide +kernel
theorem dX12_refused_92 : decode cX12_refused 92 = .ok (.goto 4, 3) := by decide +kernel
theorem dX12_refused_95 : decode cX12_refused 95 = .ok (.iconst 0, 1) := by decide +kernel
theorem dX12_refused_96 : decode cX12_refused 96 = .ok (.iadd, 1) := by decide +kernel
theorem dX12_refused_97 : decode cX12_refused 97 = .ok (.istore 5, 2) := by decide +kernel
theorem dX12_refused_99 : decode cX12_refused 99 = .ok (.iload 6, 2) := by decide +kernel
theorem dX12_refused_101 : decode cX12_refused 101 = .ok (.iload 8, 2) := by decide +kernel
theorem dX12_refused_103 : decode cX12_refused 103 = .ok (.ifCond .eq 15, 3) := by decide +kernel
theorem dX12_refused_106 : decode cX12_refused 106 = .ok (.iconst 1, 1) := by decide +kernel
theorem dX12_refused_107 : decode cX12_refused 107 = .ok (.aload_n 0, 1) := by decide +kernel
theorem dX12_refused_108 : decode cX12_refused 108 = .ok (.getfield 19, 3) := by decide +kernel
theorem dX12_refused_111 : decode cX12_refused 111 = .ok (.iload 7, 2) := by decide +kernel
theorem dX12_refused_113 : decode cX12_refused 113 = .ok (.iaload, 1) := by decide +kernel
theorem dX12_refused_114 : decode cX12_refused 114 = .ok (.isub, 1) := by decide +kernel
theorem dX12_refused_115 : decode cX12_refused 115 = .ok (.goto 4, 3) := by decide +kernel
theorem dX12_refused_118 : decode cX12_refused 118 = .ok (.iconst 0, 1) := by decide +kernel
theorem dX12_refused_119 : decode cX12_refused 119 = .ok (.iadd, 1) := by decide +kernel
theorem dX12_refused_120 : decode cX12_refused 120 = .ok (.istore 6, 2) := by decide +kernel
theorem dX12_refused_122 : decode cX12_refused 122 = .ok (.iinc 7 1, 3) := by decide +kernel
theorem dX12_refused_125 : decode cX12_refused 125 = .ok (.goto (-79), 3) := by decide +kernel
theorem dX12_refused_128 : decode cX12_refused 128 = .ok (.iload 5, 2) := by decide +kernel
theorem dX12_refused_130 : decode cX12_refused 130 = .ok (.ifCond .ne 11, 3) := by decide +kernel
theorem dX12_refused_133 : decode cX12_refused 133 = .ok (.bipush (-3), 2) := by decide +kernel
theorem dX12_refused_135 : decode cX12_refused 135 = .ok (.invokestatic 161, 3) := by decide +kernel
theorem dX12_refused_138 : decode cX12_refused 138 = .ok (.goto 14, 3) := by decide +kernel
theorem dX12_refused_141 : decode cX12_refused 141 = .ok (.iload 6, 2) := by decide +kernel
theorem dX12_refused_143 : decode cX12_refused 143 = .ok (.i2l, 1) := by decide +kernel
theorem dX12_refused_144 : decode cX12_refused 144 = .ok (.iload 5, 2) := by decide +kernel
theorem dX12_refused_146 : decode cX12_refused 146 = .ok (.i2l, 1) := by decide +kernel
theorem dX12_refused_147 : decode cX12_refused 147 = .ok (.iload 4, 2) := by decide +kernel
theorem dX12_refused_149 : decode cX12_refused 149 = .ok (.invokestatic 168, 3) := by decide +kernel
theorem dX12_refused_152 : decode cX12_refused 152 = .ok (.lreturn, 1) := by decide +kernel
theorem dX12_moves_0 : decode cX12_moves 0 = .ok (.iload_n 1, 1) := by decide +kernel
theorem dX12_moves_1 : decode cX12_moves 1 = .ok (.invokestatic 154, 3) := by decide +kernel
theorem dX12_moves_4 : decode cX12_moves 4 = .ok (.ifCond .eq 21, 3) := by decide +kernel
theorem dX12_moves_7 : decode cX12_moves 7 = .ok (.iload_n 2, 1) := by decide +kernel
theorem dX12_moves_8 : decode cX12_moves 8 = .ok (.iconst 0, 1) := by decide +kernel
theorem dX12_moves_9 : decode cX12_moves 9 = .ok (.iconst 2, 1) := by decide +kernel
theorem dX12_moves_10 : decode cX12_moves 10 = .ok (.invokestatic 107, 3) := by decide +kernel
theorem dX12_moves_13 : decode cX12_moves 13 = .ok (.ifCond .eq 12, 3) := by decide +kernel
theorem dX12_moves_16 : decode cX12_moves 16 = .ok (.iload_n 3, 1) := by decide +kernel
theorem dX12_moves_17 : decode cX12_moves 17 = .ok (.iconst 0, 1) := by decide +kernel
theorem dX12_moves_18 : decode cX12_moves 18 = .ok (.iconst 1, 1) := by decide +kernel
theorem dX12_moves_19 : decode cX12_moves 19 = .ok (.invokestatic 107, 3) := by decide +kernel
theorem dX12_moves_22 : decode cX12_moves 22 = .ok (.ifCond .ne 9, 3) := by decide +kernel
theorem dX12_moves_25 : decode cX12_moves 25 = .ok (.bipush (-2), 2) := by decide +kernel
theorem dX12_moves_27 : decode cX12_moves 27 = .ok (.invokestatic 161, 3) := by decide +kernel
theorem dX12_moves_30 : decode cX12_moves 30 = .ok (.lreturn, 1) := by decide +kernel
theorem dX12_moves_31 : decode cX12_moves 31 = .ok (.iload_n 2, 1) := by decide +kernel
theorem dX12_moves_32 : decode cX12_moves 32 = .ok (.iconst 1, 1) := by decide +kernel
theorem dX12_moves_33 : decode cX12_moves 33 = .ok (.if_icmp .ne 7, 3) := by decide +kernel
theorem dX12_moves_36 : decode cX12_moves 36 = .ok (.iconst 3, 1) := by decide +kernel
theorem dX12_moves_37 : decode cX12_moves 37 = .ok (.goto 4, 3) := by decide +kernel
theorem dX12_moves_40 : decode cX12_moves 40 = .ok (.iconst 0, 1) := by decide +kernel
theorem dX12_moves_41 : decode cX12_moves 41 = .ok (.istore 4, 2) := by decide +kernel
theorem dX12_moves_43 : decode cX12_moves 43 = .ok (.iload_n 2, 1) := by decide +kernel
theorem dX12_moves_44 : decode cX12_moves 44 = .ok (.ifCond .ne 7, 3) := by decide +kernel
theorem dX12_moves_47 : decode cX12_moves 47 = .ok (.iconst 1, 1) := by decide +kernel
theorem dX12_moves_48 : decode cX12_moves 48 = .ok (.goto 13, 3) := by decide +kernel
theorem dX12_moves_51 : decode cX12_moves 51 = .ok (.iload_n 2, 1) := by decide +kernel
theorem dX12_moves_52 : decode cX12_moves 52 = .ok (.iconst 1, 1) := by decide +kernel
theorem dX12_moves_53 : decode cX12_moves 53 = .ok (.if_icmp .ne 7, 3) := by decide +kernel
theorem dX12_moves_56 : decode cX12_moves 56 = .ok (.iconst 0, 1) := by decide +kernel
theorem dX12_moves_57 : decode cX12_moves 57 = .ok (.goto 4, 3) := by decide +kernel
theorem dX12_moves_60 : decode cX12_moves 60 = .ok (.iconst 2, 1) := by decide +kernel
theorem dX12_moves_61 : decode cX12_moves 61 = .ok (.istore 5, 2) := by decide +kernel
theorem dX12_moves_63 : decode cX12_moves 63 = .ok (.aload_n 0, 1) := by decide +kernel
theorem dX12_moves_64 : decode cX12_moves 64 = .ok (.iload_n 1, 1) := by decide +kernel
theorem dX12_moves_65 : decode cX12_moves 65 = .ok (.iload 4, 2) := by decide +kernel
theorem dX12_moves_67 : decode cX12_moves 67 = .ok (.invokevirtual 144, 3) := by decide +kernel
theorem dX12_moves_70 : decode cX12_moves 70 = .ok (.i2l, 1) := by decide +kernel
theorem dX12_moves_71 : decode cX12_moves 71 = .ok (.lstore 6, 2) := by decide +kernel
theorem dX12_moves_73 : decode cX12_moves 73 = .ok (.aload_n 0, 1) := by decide +kernel
theorem dX12_moves_74 : decode cX12_moves 74 = .ok (.iload_n 1, 1) := by decide +kernel
theorem dX12_moves_75 : decode cX12_moves 75 = .ok (.iload 5, 2) := by decide +kernel
theorem dX12_moves_77 : decode cX12_moves 77 = .ok (.invokevirtual 144, 3) := by decide +kernel
theorem dX12_moves_80 : decode cX12_moves 80 = .ok (.i2l, 1) := by decide +kernel
theorem dX12_moves_81 : decode cX12_moves 81 = .ok (.lstore 8, 2) := by decide +kernel
theorem dX12_moves_83 : decode cX12_moves 83 = .ok (.lload 6, 2) := by decide +kernel
theorem dX12_moves_85 : decode cX12_moves 85 = .ok (.lconst 0, 1) := by decide +kernel
theorem dX12_moves_86 : decode cX12_moves 86 = .ok (.lcmp, 1) := by decide +kernel
theorem dX12_moves_87 : decode cX12_moves 87 = .ok (.ifCond .eq 10, 3) := by decide +kernel
theorem dX12_moves_90 : decode cX12_moves 90 = .ok (.lload 8, 2) := by decide +kernel
theorem dX12_moves_92 : decode cX12_moves 92 = .ok (.lconst 0, 1) := by decide +kernel
theorem dX12_moves_93 : decode cX12_moves 93 = .ok (.lcmp, 1) := by decide +kernel
theorem dX12_moves_94 : decode cX12_moves 94 = .ok (.ifCond .ne 9, 3) := by decide +kernel
theorem dX12_moves_97 : decode cX12_moves 97 = .ok (.bipush (-3), 2) := by decide +kernel
theorem dX12_moves_99 : decode cX12_moves 99 = .ok (.invokestatic 161, 3) := by decide +kernel
theorem dX12_moves_102 : decode cX12_moves 102 = .ok (.lreturn, 1) := by decide +kernel
theorem dX12_moves_103 : decode cX12_moves 103 = .ok (.iload_n 2, 1) := by decide +kernel
theorem dX12_moves_104 : decode cX12_moves 104 = .ok (.iconst 2, 1) := by decide +kernel
theorem dX12_moves_105 : decode cX12_moves 105 = .ok (.if_icmp .ne 14, 3) := by decide +kernel
theorem dX12_moves_108 : decode cX12_moves 108 = .ok (.aload_n 0, 1) := by decide +kernel
theorem dX12_moves_109 : decode cX12_moves 109 = .ok (.iload_n 1, 1) := by decide +kernel
theorem dX12_moves_110 : decode cX12_moves 110 = .ok (.iload 4, 2) := by decide +kernel
theorem dX12_moves_112 : decode cX12_moves 112 = .ok (.invokevirtual 148, 3) := by decide +kernel
theorem dX12_moves_115 : decode cX12_moves 115 = .ok (.i2l, 1) := by decide +kernel
theorem dX12_moves_116 : decode cX12_moves 116 = .ok (.goto 11, 3) := by decide +kernel
theorem dX12_moves_119 : decode cX12_moves 119 = .ok (.aload_n 0, 1) := by decide +kernel
theorem dX12_moves_120 : decode cX12_moves 120 = .ok (.iload_n 1, 1) := by decide +kernel
theorem dX12_moves_121 : decode cX12_moves 121 = .ok (.iload 4, 2) := by decide +kernel
theorem dX12_moves_123 : decode cX12_moves 123 = .ok (.invokevirtual 165, 3) := by decide +kernel
theorem dX12_moves_126 : decode cX12_moves 126 = .ok (.i2l, 1) := by decide +kernel
theorem dX12_moves_127 : decode cX12_moves 127 = .ok (.lstore 10, 2) := by decide +kernel
theorem dX12_moves_129 : decode cX12_moves 129 = .ok (.iload_n 2, 1) := by decide +kernel
theorem dX12_moves_130 : decode cX12_moves 130 = .ok (.iconst 2, 1) := by decide +kernel
theorem dX12_moves_131 : decode cX12_moves 131 = .ok (.if_icmp .ne 14, 3) := by decide +kernel
theorem dX12_moves_134 : decode cX12_moves 134 = .ok (.aload_n 0, 1) := by decide +kernel
theorem dX12_moves_135 : decode cX12_moves 135 = .ok (.iload_n 1, 1) := by decide +kernel
theorem dX12_moves_136 : decode cX12_moves 136 = .ok (.iload 5, 2) := by decide +kernel
theorem dX12_moves_138 : decode cX12_moves 138 = .ok (.invokevirtual 148, 3) := by decide +kernel
theorem dX12_moves_141 : decode cX12_moves 141 = .ok (.i2l, 1) := by decide +kernel
theorem dX12_moves_142 : decode cX12_moves 142 = .ok (.goto 11, 3) := by decide +kernel
theorem dX12_moves_145 : decode cX12_moves 145 = .ok (.aload_n 0, 1) := by decide +kernel
theorem dX12_moves_146 : decode cX12_moves 146 = .ok (.iload_n 1, 1) := by decide +kernel
theorem dX12_moves_147 : decode cX12_moves 147 = .ok (.iload 5, 2) := by decide +kernel
theorem dX12_moves_149 : decode cX12_moves 149 = .ok (.invokevirtual 165, 3) := by decide +kernel
theorem dX12_moves_152 : decode cX12_moves 152 = .ok (.i2l, 1) := by decide +kernel
theorem dX12_moves_153 : decode cX12_moves 153 = .ok (.lstore 12, 2) := by decide +kernel
theorem dX12_moves_155 : decode cX12_moves 155 = .ok (.lload 10, 2) := by decide +kernel
theorem dX12_moves_157 : decode cX12_moves 157 = .ok (.lload 8, 2) := by decide +kernel
theorem dX12_moves_159 : decode cX12_moves 159 = .ok (.lmul, 1) := by decide +kernel
theorem dX12_moves_160 : decode cX12_moves 160 = .ok (.lload 12, 2) := by decide +kernel
theorem dX12_moves_162 : decode cX12_moves 162 = .ok (.lload 6, 2) := by decide +kernel
theorem dX12_moves_164 : decode cX12_moves 164 = .ok (.lmul, 1) := by decide +kernel
theorem dX12_moves_165 : decode cX12_moves 165 = .ok (.lsub, 1) := by decide +kernel
theorem dX12_moves_166 : decode cX12_moves 166 = .ok (.lload 6, 2) := by decide +kernel
theorem dX12_moves_168 : decode cX12_moves 168 = .ok (.lload 8, 2) := by decide +kernel
theorem dX12_moves_170 : decode cX12_moves 170 = .ok (.lmul, 1) := by decide +kernel
theorem dX12_moves_171 : decode cX12_moves 171 = .ok (.iload_n 3, 1) := by decide +kernel
theorem dX12_moves_172 : decode cX12_moves 172 = .ok (.invokestatic 168, 3) := by decide +kernel
theorem dX12_moves_175 : decode cX12_moves 175 = .ok (.lreturn, 1) := by decide +kernel
theorem dX12_row_0 : decode cX12_row 0 = .ok (.iload_n 1, 1) := by decide +kernel
theorem dX12_row_1 : decode cX12_row 1 = .ok (.invokestatic 111, 3) := by decide +kernel
theorem dX12_row_4 : decode cX12_row 4 = .ok (.ifCond .eq 14, 3) := by decide +kernel
theorem dX12_row_7 : decode cX12_row 7 = .ok (.iload_n 2, 1) := by decide +kernel
theorem dX12_row_8 : decode cX12_row 8 = .ok (.iconst 0, 1) := by decide +kernel
theorem dX12_row_9 : decode cX12_row 9 = .ok (.sipush 2047, 3) := by decide +kernel
theorem dX12_row_12 : decode cX12_row 12 = .ok (.invokestatic 107, 3) := by decide +kernel
theorem dX12_row_15 : decode cX12_row 15 = .ok (.ifCond .ne 6, 3) := by decide +kernel
theorem dX12_row_18 : decode cX12_row 18 = .ok (.bipush (-2), 2) := by decide +kernel
theorem dX12_row_20 : decode cX12_row 20 = .ok (.ireturn, 1) := by decide +kernel
theorem dX12_row_21 : decode cX12_row 21 = .ok (.aload_n 0, 1) := by decide +kernel
theorem dX12_row_22 : decode cX12_row 22 = .ok (.getfield 176, 3) := by decide +kernel
theorem dX12_row_25 : decode cX12_row 25 = .ok (.bipush 12, 2) := by decide +kernel
theorem dX12_row_27 : decode cX12_row 27 = .ok (.if_icmp .ne 6, 3) := by decide +kernel
theorem dX12_row_30 : decode cX12_row 30 = .ok (.bipush (-4), 2) := by decide +kernel
theorem dX12_row_32 : decode cX12_row 32 = .ok (.ireturn, 1) := by decide +kernel
theorem dX12_row_33 : decode cX12_row 33 = .ok (.aload_n 0, 1) := by decide +kernel
theorem dX12_row_34 : decode cX12_row 34 = .ok (.getfield 32, 3) := by decide +kernel
theorem dX12_row_37 : decode cX12_row 37 = .ok (.aload_n 0, 1) := by decide +kernel
theorem dX12_row_38 : decode cX12_row 38 = .ok (.getfield 176, 3) := by decide +kernel
theorem dX12_row_41 : decode cX12_row 41 = .ok (.iload_n 1, 1) := by decide +kernel
theorem dX12_row_42 : decode cX12_row 42 = .ok (.iastore, 1) := by decide +kernel
theorem dX12_row_43 : decode cX12_row 43 = .ok (.aload_n 0, 1) := by decide +kernel
theorem dX12_row_44 : decode cX12_row 44 = .ok (.getfield 35, 3) := by decide +kernel
theorem dX12_row_47 : decode cX12_row 47 = .ok (.aload_n 0, 1) := by decide +kernel
theorem dX12_row_48 : decode cX12_row 48 = .ok (.getfield 176, 3) := by decide +kernel
theorem dX12_row_51 : decode cX12_row 51 = .ok (.iload_n 2, 1) := by decide +kernel
theorem dX12_row_52 : decode cX12_row 52 = .ok (.iastore, 1) := by decide +kernel
theorem dX12_row_53 : decode cX12_row 53 = .ok (.aload_n 0, 1) := by decide +kernel
theorem dX12_row_54 : decode cX12_row 54 = .ok (.dup, 1) := by decide +kernel
theorem dX12_row_55 : decode cX12_row 55 = .ok (.getfield 176, 3) := by decide +kernel
theorem dX12_row_58 : decode cX12_row 58 = .ok (.iconst 1, 1) := by decide +kernel
theorem dX12_row_59 : decode cX12_row 59 = .ok (.iadd, 1) := by decide +kernel
theorem dX12_row_60 : decode cX12_row 60 = .ok (.putfield 176, 3) := by decide +kernel
theorem dX12_row_63 : decode cX12_row 63 = .ok (.aload_n 0, 1) := by decide +kernel
theorem dX12_row_64 : decode cX12_row 64 = .ok (.getfield 176, 3) := by decide +kernel
theorem dX12_row_67 : decode cX12_row 67 = .ok (.iconst 1, 1) := by decide +kernel
theorem dX12_row_68 : decode cX12_row 68 = .ok (.isub, 1) := by decide +kernel
theorem dX12_row_69 : decode cX12_row 69 = .ok (.ireturn, 1) := by decide +kernel
theorem dX12_lineNow_0 : decode cX12_lineNow 0 = .ok (.bipush 99, 2) := by decide +kernel
theorem dX12_lineNow_2 : decode cX12_lineNow 2 = .ok (.istore_n 3, 1) := by decide +kernel
theorem dX12_lineNow_3 : decode cX12_lineNow 3 = .ok (.iconst 0, 1) := by decide +kernel
theorem dX12_lineNow_4 : decode cX12_lineNow 4 = .ok (.istore 4, 2) := by decide +kernel
theorem dX12_lineNow_6 : decode cX12_lineNow 6 = .ok (.iconst 0, 1) := by decide +kernel
theorem dX12_lineNow_7 : decode cX12_lineNow 7 = .ok (.istore 5, 2) := by decide +kernel
theorem dX12_lineNow_9 : decode cX12_lineNow 9 = .ok (.iconst 0, 1) := by decide +kernel
theorem dX12_lineNow_10 : decode cX12_lineNow 10 = .ok (.istore 6, 2) := by decide +kernel
theorem dX12_lineNow_12 : decode cX12_lineNow 12 = .ok (.iload 6, 2) := by decide +kernel
theorem dX12_lineNow_14 : decode cX12_lineNow 14 = .ok (.bipush 11, 2) := by decide +kernel
theorem dX12_lineNow_16 : decode cX12_lineNow 16 = .ok (.if_icmp .ge 95, 3) := by decide +kernel
theorem dX12_lineNow_19 : decode cX12_lineNow 19 = .ok (.bipush 10, 2) := by decide +kernel
theorem dX12_lineNow_21 : decode cX12_lineNow 21 = .ok (.istore 7, 2) := by decide +kernel
theorem dX12_lineNow_23 : decode cX12_lineNow 23 = .ok (.iload 7, 2) := by decide +kernel
theorem dX12_lineNow_25 : decode cX12_lineNow 25 = .ok (.iload 6, 2) := by decide +kernel
theorem dX12_lineNow_27 : decode cX12_lineNow 27 = .ok (.if_icmp .lt 78, 3) := by decide +kernel
theorem dX12_lineNow_30 : decode cX12_lineNow 30 = .ok (.iconst 0, 1) := by decide +kernel
theorem dX12_lineNow_31 : decode cX12_lineNow 31 = .ok (.istore 8, 2) := by decide +kernel
theorem dX12_lineNow_33 : decode cX12_lineNow 33 = .ok (.iconst 0, 1) := by decide +kernel
theorem dX12_lineNow_34 : decode cX12_lineNow 34 = .ok (.istore 9, 2) := by decide +kernel
theorem dX12_lineNow_36 : decode cX12_lineNow 36 = .ok (.iload 9, 2) := by decide +kernel
theorem dX12_lineNow_38 : decode cX12_lineNow 38 = .ok (.bipush 11, 2) := by decide +kernel
theorem dX12_lineNow_40 : decode cX12_lineNow 40 = .ok (.if_icmp .ge 42, 3) := by decide +kernel
theorem dX12_lineNow_43 : decode cX12_lineNow 43 = .ok (.iload 8, 2) := by decide +kernel
theorem dX12_lineNow_45 : decode cX12_lineNow 45 = .ok (.aload_n 0, 1) := by decide +kernel
theorem dX12_lineNow_46 : decode cX12_lineNow 46 = .ok (.getfield 35, 3) := by decide +kernel
theorem dX12_lineNow_49 : decode cX12_lineNow 49 = .ok (.iload_n 1, 1) := by decide +kernel
theorem dX12_lineNow_50 : decode cX12_lineNow 50 = .ok (.iaload, 1) := by decide +kernel
theorem dX12_lineNow_51 : decode cX12_lineNow 51 = .ok (.iload 9, 2) := by decide +kernel
theorem dX12_lineNow_53 : decode cX12_lineNow 53 = .ok (.invokestatic 179, 3) := by decide +kernel
theorem dX12_lineNow_56 : decode cX12_lineNow 56 = .ok (.iload 9, 2) := by decide +kernel
theorem dX12_lineNow_58 : decode cX12_lineNow 58 = .ok (.iload 6, 2) := by decide +kernel
theorem dX12_lineNow_60 : decode cX12_lineNow 60 = .ok (.iload 7, 2) := by decide +kernel
theorem dX12_lineNow_62 : decode cX12_lineNow 62 = .ok (.invokestatic 107, 3) := by decide +kernel
theorem dX12_lineNow_65 : decode cX12_lineNow 65 = .ok (.if_icmp .ne 7, 3) := by decide +kernel
theorem dX12_lineNow_68 : decode cX12_lineNow 68 = .ok (.iconst 0, 1) := by decide +kernel
theorem dX12_lineNow_69 : decode cX12_lineNow 69 = .ok (.goto 4, 3) := by decide +kernel
theorem dX12_lineNow_72 : decode cX12_lineNow 72 = .ok (.iconst 1, 1) := by decide +kernel
theorem dX12_lineNow_73 : decode cX12_lineNow 73 = .ok (.iadd, 1) := by decide +kernel
theorem dX12_lineNow_74 : decode cX12_lineNow 74 = .ok (.istore 8, 2) := by decide +kernel
theorem dX12_lineNow_76 : decode cX12_lineNow 76 = .ok (.iinc 9 1, 3) := by decide +kernel
theorem dX12_lineNow_79 : decode cX12_lineNow 79 = .ok (.goto (-43), 3) := by decide +kernel
theorem dX12_lineNow_82 : decode cX12_lineNow 82 = .ok (.iload 8, 2) := by decide +kernel
theorem dX12_lineNow_84 : decode cX12_lineNow 84 = .ok (.iload_n 3, 1) := by decide +kernel
theorem dX12_lineNow_85 : decode cX12_lineNow 85 = .ok (.if_icmp .ge 14, 3) := by decide +kernel
theorem dX12_lineNow_88 : decode cX12_lineNow 88 = .ok (.iload 8, 2) := by decide +kernel
theorem dX12_lineNow_90 : decode cX12_lineNow 90 = .ok (.istore_n 3, 1) := by decide +kernel
theorem dX12_lineNow_91 : decode cX12_lineNow 91 = .ok (.iload 6, 2) := by decide +kernel
theorem dX12_lineNow_93 : decode cX12_lineNow 93 = .ok (.istore 4, 2) := by decide +kernel
theorem dX12_lineNow_95 : decode cX12_lineNow 95 = .ok (.iload 7, 2) := by decide +kernel
theorem dX12_lineNow_97 : decode cX12_lineNow 97 = .ok (.istore 5, 2) := by decide +kernel
theorem dX12_lineNow_99 : decode cX12_lineNow 99 = .ok (.iinc 7 (-1), 3) := by decide +kernel
theorem dX12_lineNow_102 : decode cX12_lineNow 102 = .ok (.goto (-79), 3) := by decide +kernel
theorem dX12_lineNow_105 : decode cX12_lineNow 105 = .ok (.iinc 6 1, 3) := by decide +kernel
theorem dX12_lineNow_108 : decode cX12_lineNow 108 = .ok (.goto (-96), 3) := by decide +kernel
theorem dX12_lineNow_111 : decode cX12_lineNow 111 = .ok (.iload_n 2, 1) := by decide +kernel
theorem dX12_lineNow_112 : decode cX12_lineNow 112 = .ok (.ifCond .ne 7, 3) := by decide +kernel
theorem dX12_lineNow_115 : decode cX12_lineNow 115 = .ok (.iload_n 3, 1) := by decide +kernel
theorem dX12_lineNow_116 : decode cX12_lineNow 116 = .ok (.goto 15, 3) := by decide +kernel
theorem dX12_lineNow_119 : decode cX12_lineNow 119 = .ok (.iload_n 2, 1) := by decide +kernel
theorem dX12_lineNow_120 : decode cX12_lineNow 120 = .ok (.iconst 1, 1) := by decide +kernel
theorem dX12_lineNow_121 : decode cX12_lineNow 121 = .ok (.if_icmp .ne 8, 3) := by decide +kernel
theorem dX12_lineNow_124 : decode cX12_lineNow 124 = .ok (.iload 4, 2) := by decide +kernel
theorem dX12_lineNow_126 : decode cX12_lineNow 126 = .ok (.goto 5, 3) := by decide +kernel
theorem dX12_lineNow_129 : decode cX12_lineNow 129 = .ok (.iload 5, 2) := by decide +kernel
theorem dX12_lineNow_131 : decode cX12_lineNow 131 = .ok (.ireturn, 1) := by decide +kernel
theorem dX12_line_0 : decode cX12_line 0 = .ok (.iload_n 1, 1) := by decide +kernel
theorem dX12_line_1 : decode cX12_line 1 = .ok (.iconst 0, 1) := by decide +kernel
theorem dX12_line_2 : decode cX12_line 2 = .ok (.aload_n 0, 1) := by decide +kernel
theorem dX12_line_3 : decode cX12_line 3 = .ok (.getfield 176, 3) := by decide +kernel
theorem dX12_line_6 : decode cX12_line 6 = .ok (.iconst 1, 1) := by decide +kernel
theorem dX12_line_7 : decode cX12_line 7 = .ok (.isub, 1) := by decide +kernel
theorem dX12_line_8 : decode cX12_line 8 = .ok (.invokestatic 107, 3) := by decide +kernel
theorem dX12_line_11 : decode cX12_line 11 = .ok (.ifCond .eq 21, 3) := by decide +kernel
theorem dX12_line_14 : decode cX12_line 14 = .ok (.iload_n 2, 1) := by decide +kernel
theorem dX12_line_15 : decode cX12_line 15 = .ok (.iconst 0, 1) := by decide +kernel
theorem dX12_line_16 : decode cX12_line 16 = .ok (.iconst 2, 1) := by decide +kernel
theorem dX12_line_17 : decode cX12_line 17 = .ok (.invokestatic 107, 3) := by decide +kernel
theorem dX12_line_20 : decode cX12_line 20 = .ok (.ifCond .eq 12, 3) := by decide +kernel
theorem dX12_line_23 : decode cX12_line 23 = .ok (.aload_n 0, 1) := by decide +kernel
theorem dX12_line_24 : decode cX12_line 24 = .ok (.iload_n 1, 1) := by decide +kernel
theorem dX12_line_25 : decode cX12_line 25 = .ok (.iload_n 2, 1) := by decide +kernel
theorem dX12_line_26 : decode cX12_line 26 = .ok (.invokevirtual 183, 3) := by decide +kernel
theorem dX12_line_29 : decode cX12_line 29 = .ok (.goto 5, 3) := by decide +kernel
theorem dX12_line_32 : decode cX12_line 32 = .ok (.bipush (-2), 2) := by decide +kernel
theorem dX12_line_34 : decode cX12_line 34 = .ok (.ireturn, 1) := by decide +kernel
theorem dX12_rowsOf_0 : decode cX12_rowsOf 0 = .ok (.iconst 0, 1) := by decide +kernel
theorem dX12_rowsOf_1 : decode cX12_rowsOf 1 = .ok (.istore_n 2, 1) := by decide +kernel
theorem dX12_rowsOf_2 : decode cX12_rowsOf 2 = .ok (.iconst 0, 1) := by decide +kernel
theorem dX12_rowsOf_3 : decode cX12_rowsOf 3 = .ok (.istore_n 3, 1) := by decide +kernel
theorem dX12_rowsOf_4 : decode cX12_rowsOf 4 = .ok (.iload_n 3, 1) := by decide +kernel
theorem dX12_rowsOf_5 : decode cX12_rowsOf 5 = .ok (.aload_n 0, 1) := by decide +kernel
theorem dX12_rowsOf_6 : decode cX12_rowsOf 6 = .ok (.getfield 176, 3) := by decide +kernel
theorem dX12_rowsOf_9 : decode cX12_rowsOf 9 = .ok (.if_icmp .ge 32, 3) := by decide +kernel
theorem dX12_rowsOf_12 : decode cX12_rowsOf 12 = .ok (.iload_n 2, 1) := by decide +kernel
theorem dX12_rowsOf_13 : decode cX12_rowsOf 13 = .ok (.iload_n 1, 1) := by decide +kernel
theorem dX12_rowsOf_14 : decode cX12_rowsOf 14 = .ok (.iconst (-1), 1) := by decide +kernel
theorem dX12_rowsOf_15 : decode cX12_rowsOf 15 = .ok (.if_icmp .eq 13, 3) := by decide +kernel
theorem dX12_rowsOf_18 : decode cX12_rowsOf 18 = .ok (.aload_n 0, 1) := by decide +kernel
theorem dX12_rowsOf_19 : decode cX12_rowsOf 19 = .ok (.getfield 32, 3) := by decide +kernel
theorem dX12_rowsOf_22 : decode cX12_rowsOf 22 = .ok (.iload_n 3, 1) := by decide +kernel
theorem dX12_rowsOf_23 : decode cX12_rowsOf 23 = .ok (.iaload, 1) := by decide +kernel
theorem dX12_rowsOf_24 : decode cX12_rowsOf 24 = .ok (.iload_n 1, 1) := by decide +kernel
theorem dX12_rowsOf_25 : decode cX12_rowsOf 25 = .ok (.if_icmp .ne 7, 3) := by decide +kernel
theorem dX12_rowsOf_28 : decode cX12_rowsOf 28 = .ok (.iconst 1, 1) := by decide +kernel
theorem dX12_rowsOf_29 : decode cX12_rowsOf 29 = .ok (.goto 4, 3) := by decide +kernel
theorem dX12_rowsOf_32 : decode cX12_rowsOf 32 = .ok (.iconst 0, 1) := by decide +kernel
theorem dX12_rowsOf_33 : decode cX12_rowsOf 33 = .ok (.iadd, 1) := by decide +kernel
theorem dX12_rowsOf_34 : decode cX12_rowsOf 34 = .ok (.istore_n 2, 1) := by decide +kernel
theorem dX12_rowsOf_35 : decode cX12_rowsOf 35 = .ok (.iinc 3 1, 3) := by decide +kernel
theorem dX12_rowsOf_38 : decode cX12_rowsOf 38 = .ok (.goto (-34), 3) := by decide +kernel
theorem dX12_rowsOf_41 : decode cX12_rowsOf 41 = .ok (.iload_n 2, 1) := by decide +kernel
theorem dX12_rowsOf_42 : decode cX12_rowsOf 42 = .ok (.ireturn, 1) := by decide +kernel
theorem dX12_yesesOf_0 : decode cX12_yesesOf 0 = .ok (.iconst 0, 1) := by decide +kernel
theorem dX12_yesesOf_1 : decode cX12_yesesOf 1 = .ok (.istore_n 3, 1) := by decide +kernel
theorem dX12_yesesOf_2 : decode cX12_yesesOf 2 = .ok (.iconst 0, 1) := by decide +kernel
theorem dX12_yesesOf_3 : decode cX12_yesesOf 3 = .ok (.istore 4, 2) := by decide +kernel
theorem dX12_yesesOf_5 : decode cX12_yesesOf 5 = .ok (.iload 4, 2) := by decide +kernel
theorem dX12_yesesOf_7 : decode cX12_yesesOf 7 = .ok (.aload_n 0, 1) := by decide +kernel
theorem dX12_yesesOf_8 : decode cX12_yesesOf 8 = .ok (.getfield 176, 3) := by decide +kernel
theorem dX12_yesesOf_11 : decode cX12_yesesOf 11 = .ok (.if_icmp .ge 47, 3) := by decide +kernel
theorem dX12_yesesOf_14 : decode cX12_yesesOf 14 = .ok (.iload_n 3, 1) := by decide +kernel
theorem dX12_yesesOf_15 : decode cX12_yesesOf 15 = .ok (.iload_n 1, 1) := by decide +kernel
theorem dX12_yesesOf_16 : decode cX12_yesesOf 16 = .ok (.iconst (-1), 1) := by decide +kernel
theorem dX12_yesesOf_17 : decode cX12_yesesOf 17 = .ok (.if_icmp .eq 14, 3) := by decide +kernel
theorem dX12_yesesOf_20 : decode cX12_yesesOf 20 = .ok (.aload_n 0, 1) := by decide +kernel
theorem dX12_yesesOf_21 : decode cX12_yesesOf 21 = .ok (.getfield 32, 3) := by decide +kernel
theorem dX12_yesesOf_24 : decode cX12_yesesOf 24 = .ok (.iload 4, 2) := by decide +kernel
theorem dX12_yesesOf_26 : decode cX12_yesesOf 26 = .ok (.iaload, 1) := by decide +kernel
theorem dX12_yesesOf_27 : decode cX12_yesesOf 27 = .ok (.iload_n 1, 1) := by decide +kernel
theorem dX12_yesesOf_28 : decode cX12_yesesOf 28 = .ok (.if_icmp .ne 21, 3) := by decide +kernel
theorem dX12_yesesOf_31 : decode cX12_yesesOf 31 = .ok (.aload_n 0, 1) := by decide +kernel
theorem dX12_yesesOf_32 : decode cX12_yesesOf 32 = .ok (.getfield 35, 3) := by decide +kernel
theorem dX12_yesesOf_35 : decode cX12_yesesOf 35 = .ok (.iload 4, 2) := by decide +kernel
theorem dX12_yesesOf_37 : decode cX12_yesesOf 37 = .ok (.iaload, 1) := by decide +kernel
theorem dX12_yesesOf_38 : decode cX12_yesesOf 38 = .ok (.iload_n 2, 1) := by decide +kernel
theorem dX12_yesesOf_39 : decode cX12_yesesOf 39 = .ok (.invokestatic 179, 3) := by decide +kernel
theorem dX12_yesesOf_42 : decode cX12_yesesOf 42 = .ok (.ifCond .eq 7, 3) := by decide +kernel
theorem dX12_yesesOf_45 : decode cX12_yesesOf 45 = .ok (.iconst 1, 1) := by decide +kernel
theorem dX12_yesesOf_46 : decode cX12_yesesOf 46 = .ok (.goto 4, 3) := by decide +kernel
theorem dX12_yesesOf_49 : decode cX12_yesesOf 49 = .ok (.iconst 0, 1) := by decide +kernel
theorem dX12_yesesOf_50 : decode cX12_yesesOf 50 = .ok (.iadd, 1) := by decide +kernel
theorem dX12_yesesOf_51 : decode cX12_yesesOf 51 = .ok (.istore_n 3, 1) := by decide +kernel
theorem dX12_yesesOf_52 : decode cX12_yesesOf 52 = .ok (.iinc 4 1, 3) := by decide +kernel
theorem dX12_yesesOf_55 : decode cX12_yesesOf 55 = .ok (.goto (-50), 3) := by decide +kernel
theorem dX12_yesesOf_58 : decode cX12_yesesOf 58 = .ok (.iload_n 3, 1) := by decide +kernel
theorem dX12_yesesOf_59 : decode cX12_yesesOf 59 = .ok (.ireturn, 1) := by decide +kernel
theorem dX12_taken_0 : decode cX12_taken 0 = .ok (.iload_n 1, 1) := by decide +kernel
theorem dX12_taken_1 : decode cX12_taken 1 = .ok (.invokestatic 154, 3) := by decide +kernel
theorem dX12_taken_4 : decode cX12_taken 4 = .ok (.ifCond .eq 19, 3) := by decide +kernel
theorem dX12_taken_7 : decode cX12_taken 7 = .ok (.iload_n 2, 1) := by decide +kernel
theorem dX12_taken_8 : decode cX12_taken 8 = .ok (.invokestatic 118, 3) := by decide +kernel
theorem dX12_taken_11 : decode cX12_taken 11 = .ok (.ifCond .eq 12, 3) := by decide +kernel
theorem dX12_taken_14 : decode cX12_taken 14 = .ok (.iload_n 3, 1) := by decide +kernel
theorem dX12_taken_15 : decode cX12_taken 15 = .ok (.iconst 0, 1) := by decide +kernel
theorem dX12_taken_16 : decode cX12_taken 16 = .ok (.iconst 1, 1) := by decide +kernel
theorem dX12_taken_17 : decode cX12_taken 17 = .ok (.invokestatic 107, 3) := by decide +kernel
theorem dX12_taken_20 : decode cX12_taken 20 = .ok (.ifCond .ne 9, 3) := by decide +kernel
theorem dX12_taken_23 : decode cX12_taken 23 = .ok (.bipush (-2), 2) := by decide +kernel
theorem dX12_taken_25 : decode cX12_taken 25 = .ok (.invokestatic 161, 3) := by decide +kernel
theorem dX12_taken_28 : decode cX12_taken 28 = .ok (.lreturn, 1) := by decide +kernel
theorem dX12_taken_29 : decode cX12_taken 29 = .ok (.aload_n 0, 1) := by decide +kernel
theorem dX12_taken_30 : decode cX12_taken 30 = .ok (.iload_n 1, 1) := by decide +kernel
theorem dX12_taken_31 : decode cX12_taken 31 = .ok (.invokevirtual 186, 3) := by decide +kernel
theorem dX12_taken_34 : decode cX12_taken 34 = .ok (.istore 4, 2) := by decide +kernel
theorem dX12_taken_36 : decode cX12_taken 36 = .ok (.iload 4, 2) := by decide +kernel
theorem dX12_taken_38 : decode cX12_taken 38 = .ok (.ifCond .ne 11, 3) := by decide +kernel
theorem dX12_taken_41 : decode cX12_taken 41 = .ok (.bipush (-3), 2) := by decide +kernel
theorem dX12_taken_43 : decode cX12_taken 43 = .ok (.invokestatic 161, 3) := by decide +kernel
theorem dX12_taken_46 : decode cX12_taken 46 = .ok (.goto 17, 3) := by decide +kernel
theorem dX12_taken_49 : decode cX12_taken 49 = .ok (.aload_n 0, 1) := by decide +kernel
theorem dX12_taken_50 : decode cX12_taken 50 = .ok (.iload_n 1, 1) := by decide +kernel
theorem dX12_taken_51 : decode cX12_taken 51 = .ok (.iload_n 2, 1) := by decide +kernel
theorem dX12_taken_52 : decode cX12_taken 52 = .ok (.invokevirtual 189, 3) := by decide +kernel
theorem dX12_taken_55 : decode cX12_taken 55 = .ok (.i2l, 1) := by decide +kernel
theorem dX12_taken_56 : decode cX12_taken 56 = .ok (.iload 4, 2) := by decide +kernel
theorem dX12_taken_58 : decode cX12_taken 58 = .ok (.i2l, 1) := by decide +kernel
theorem dX12_taken_59 : decode cX12_taken 59 = .ok (.iload_n 3, 1) := by decide +kernel
theorem dX12_taken_60 : decode cX12_taken 60 = .ok (.invokestatic 168, 3) := by decide +kernel
theorem dX12_taken_63 : decode cX12_taken 63 = .ok (.lreturn, 1) := by decide +kernel
theorem dX12_bestNow_0 : decode cX12_bestNow 0 = .ok (.aload_n 0, 1) := by decide +kernel
theorem dX12_bestNow_1 : decode cX12_bestNow 1 = .ok (.iload_n 1, 1) := by decide +kernel
theorem dX12_bestNow_2 : decode cX12_bestNow 2 = .ok (.invokevirtual 186, 3) := by decide +kernel
theorem dX12_bestNow_5 : decode cX12_bestNow 5 = .ok (.ifCond .ne 6, 3) := by decide +kernel
theorem dX12_bestNow_8 : decode cX12_bestNow 8 = .ok (.bipush (-3), 2) := by decide +kernel
theorem dX12_bestNow_10 : decode cX12_bestNow 10 = .ok (.ireturn, 1) := by decide +kernel
theorem dX12_bestNow_11 : decode cX12_bestNow 11 = .ok (.iconst 0, 1) := by decide +kernel
theorem dX12_bestNow_12 : decode cX12_bestNow 12 = .ok (.istore_n 2, 1) := by decide +kernel
theorem dX12_bestNow_13 : decode cX12_bestNow 13 = .ok (.iconst 1, 1) := by decide +kernel
theorem dX12_bestNow_14 : decode cX12_bestNow 14 = .ok (.istore_n 3, 1) := by decide +kernel
theorem dX12_bestNow_15 : decode cX12_bestNow 15 = .ok (.iload_n 3, 1) := by decide +kernel
theorem dX12_bestNow_16 : decode cX12_bestNow 16 = .ok (.bipush 11, 2) := by decide +kernel
theorem dX12_bestNow_18 : decode cX12_bestNow 18 = .ok (.if_icmp .ge 40, 3) := by decide +kernel
theorem dX12_bestNow_21 : decode cX12_bestNow 21 = .ok (.bipush 10, 2) := by decide +kernel
theorem dX12_bestNow_23 : decode cX12_bestNow 23 = .ok (.iload_n 3, 1) := by decide +kernel
theorem dX12_bestNow_24 : decode cX12_bestNow 24 = .ok (.isub, 1) := by decide +kernel
theorem dX12_bestNow_25 : decode cX12_bestNow 25 = .ok (.aload_n 0, 1) := by decide +kernel
theorem dX12_bestNow_26 : decode cX12_bestNow 26 = .ok (.iload_n 1, 1) := by decide +kernel
theorem dX12_bestNow_27 : decode cX12_bestNow 27 = .ok (.iload_n 3, 1) := by decide +kernel
theorem dX12_bestNow_28 : decode cX12_bestNow 28 = .ok (.invokevirtual 189, 3) := by decide +kernel
theorem dX12_bestNow_31 : decode cX12_bestNow 31 = .ok (.imul, 1) := by decide +kernel
theorem dX12_bestNow_32 : decode cX12_bestNow 32 = .ok (.bipush 10, 2) := by decide +kernel
theorem dX12_bestNow_34 : decode cX12_bestNow 34 = .ok (.iload_n 2, 1) := by decide +kernel
theorem dX12_bestNow_35 : decode cX12_bestNow 35 = .ok (.isub, 1) := by decide +kernel
theorem dX12_bestNow_36 : decode cX12_bestNow 36 = .ok (.aload_n 0, 1) := by decide +kernel
theorem dX12_bestNow_37 : decode cX12_bestNow 37 = .ok (.iload_n 1, 1) := by decide +kernel
theorem dX12_bestNow_38 : decode cX12_bestNow 38 = .ok (.iload_n 2, 1) := by decide +kernel
theorem dX12_bestNow_39 : decode cX12_bestNow 39 = .ok (.invokevirtual 189, 3) := by decide +kernel
theorem dX12_bestNow_42 : decode cX12_bestNow 42 = .ok (.imul, 1) := by decide +kernel
theorem dX12_bestNow_43 : decode cX12_bestNow 43 = .ok (.if_icmp .le 7, 3) := by decide +kernel
theorem dX12_bestNow_46 : decode cX12_bestNow 46 = .ok (.iload_n 3, 1) := by decide +kernel
theorem dX12_bestNow_47 : decode cX12_bestNow 47 = .ok (.goto 4, 3) := by decide +kernel
theorem dX12_bestNow_50 : decode cX12_bestNow 50 = .ok (.iload_n 2, 1) := by decide +kernel
theorem dX12_bestNow_51 : decode cX12_bestNow 51 = .ok (.istore_n 2, 1) := by decide +kernel
theorem dX12_bestNow_52 : decode cX12_bestNow 52 = .ok (.iinc 3 1, 3) := by decide +kernel
theorem dX12_bestNow_55 : decode cX12_bestNow 55 = .ok (.goto (-40), 3) := by decide +kernel
theorem dX12_bestNow_58 : decode cX12_bestNow 58 = .ok (.iload_n 2, 1) := by decide +kernel
theorem dX12_bestNow_59 : decode cX12_bestNow 59 = .ok (.ireturn, 1) := by decide +kernel
theorem dX12_best_0 : decode cX12_best 0 = .ok (.iload_n 1, 1) := by decide +kernel
theorem dX12_best_1 : decode cX12_best 1 = .ok (.invokestatic 154, 3) := by decide +kernel
theorem dX12_best_4 : decode cX12_best 4 = .ok (.ifCond .eq 11, 3) := by decide +kernel
theorem dX12_best_7 : decode cX12_best 7 = .ok (.aload_n 0, 1) := by decide +kernel
theorem dX12_best_8 : decode cX12_best 8 = .ok (.iload_n 1, 1) := by decide +kernel
theorem dX12_best_9 : decode cX12_best 9 = .ok (.invokevirtual 192, 3) := by decide +kernel
theorem dX12_best_12 : decode cX12_best 12 = .ok (.goto 5, 3) := by decide +kernel
theorem dX12_best_15 : decode cX12_best 15 = .ok (.bipush (-2), 2) := by decide +kernel
theorem dX12_best_17 : decode cX12_best 17 = .ok (.ireturn, 1) := by decide +kernel
theorem dX12_isBelief_0 : decode cX12_isBelief 0 = .ok (.iload_n 1, 1) := by decide +kernel
theorem dX12_isBelief_1 : decode cX12_isBelief 1 = .ok (.iconst 0, 1) := by decide +kernel
theorem dX12_isBelief_2 : decode cX12_isBelief 2 = .ok (.aload_n 0, 1) := by decide +kernel
theorem dX12_isBelief_3 : decode cX12_isBelief 3 = .ok (.getfield 195, 3) := by decide +kernel
theorem dX12_isBelief_6 : decode cX12_isBelief 6 = .ok (.iconst 1, 1) := by decide +kernel
theorem dX12_isBelief_7 : decode cX12_isBelief 7 = .ok (.isub, 1) := by decide +kernel
theorem dX12_isBelief_8 : decode cX12_isBelief 8 = .ok (.invokestatic 107, 3) := by decide +kernel
theorem dX12_isBelief_11 : decode cX12_isBelief 11 = .ok (.ireturn, 1) := by decide +kernel
theorem dX12_belief_0 : decode cX12_belief 0 = .ok (.iload_n 1, 1) := by decide +kernel
theorem dX12_belief_1 : decode cX12_belief 1 = .ok (.invokestatic 111, 3) := by decide +kernel
theorem dX12_belief_4 : decode cX12_belief 4 = .ok (.ifCond .ne 6, 3) := by decide +kernel
theorem dX12_belief_7 : decode cX12_belief 7 = .ok (.bipush (-2), 2) := by decide +kernel
theorem dX12_belief_9 : decode cX12_belief 9 = .ok (.ireturn, 1) := by decide +kernel
theorem dX12_belief_10 : decode cX12_belief 10 = .ok (.aload_n 0, 1) := by decide +kernel
theorem dX12_belief_11 : decode cX12_belief 11 = .ok (.getfield 195, 3) := by decide +kernel
theorem dX12_belief_14 : decode cX12_belief 14 = .ok (.bipush 8, 2) := by decide +kernel
theorem dX12_belief_16 : decode cX12_belief 16 = .ok (.if_icmp .ne 6, 3) := by decide +kernel
theorem dX12_belief_19 : decode cX12_belief 19 = .ok (.bipush (-4), 2) := by decide +kernel
theorem dX12_belief_21 : decode cX12_belief 21 = .ok (.ireturn, 1) := by decide +kernel
theorem dX12_belief_22 : decode cX12_belief 22 = .ok (.aload_n 0, 1) := by decide +kernel
theorem dX12_belief_23 : decode cX12_belief 23 = .ok (.getfield 38, 3) := by decide +kernel
theorem dX12_belief_26 : decode cX12_belief 26 = .ok (.aload_n 0, 1) := by decide +kernel
theorem dX12_belief_27 : decode cX12_belief 27 = .ok (.getfield 195, 3) := by decide +kernel
theorem dX12_belief_30 : decode cX12_belief 30 = .ok (.iload_n 1, 1) := by decide +kernel
theorem dX12_belief_31 : decode cX12_belief 31 = .ok (.iastore, 1) := by decide +kernel
theorem dX12_belief_32 : decode cX12_belief 32 = .ok (.aload_n 0, 1) := by decide +kernel
theorem dX12_belief_33 : decode cX12_belief 33 = .ok (.dup, 1) := by decide +kernel
theorem dX12_belief_34 : decode cX12_belief 34 = .ok (.getfield 195, 3) := by decide +kernel
theorem dX12_belief_37 : decode cX12_belief 37 = .ok (.iconst 1, 1) := by decide +kernel
theorem dX12_belief_38 : decode cX12_belief 38 = .ok (.iadd, 1) := by decide +kernel
theorem dX12_belief_39 : decode cX12_belief 39 = .ok (.putfield 195, 3) := by decide +kernel
theorem dX12_belief_42 : decode cX12_belief 42 = .ok (.aload_n 0, 1) := by decide +kernel
theorem dX12_belief_43 : decode cX12_belief 43 = .ok (.getfield 195, 3) := by decide +kernel
theorem dX12_belief_46 : decode cX12_belief 46 = .ok (.iconst 1, 1) := by decide +kernel
theorem dX12_belief_47 : decode cX12_belief 47 = .ok (.isub, 1) := by decide +kernel
theorem dX12_belief_48 : decode cX12_belief 48 = .ok (.ireturn, 1) := by decide +kernel
theorem dX12_believe_0 : decode cX12_believe 0 = .ok (.aload_n 0, 1) := by decide +kernel
theorem dX12_believe_1 : decode cX12_believe 1 = .ok (.iload_n 1, 1) := by decide +kernel
theorem dX12_believe_2 : decode cX12_believe 2 = .ok (.invokevirtual 198, 3) := by decide +kernel
theorem dX12_believe_5 : decode cX12_believe 5 = .ok (.ifCond .eq 20, 3) := by decide +kernel
theorem dX12_believe_8 : decode cX12_believe 8 = .ok (.iload_n 2, 1) := by decide +kernel
theorem dX12_believe_9 : decode cX12_believe 9 = .ok (.invokestatic 118, 3) := by decide +kernel
theorem dX12_believe_12 : decode cX12_believe 12 = .ok (.ifCond .eq 13, 3) := by decide +kernel
theorem dX12_believe_15 : decode cX12_believe 15 = .ok (.iload_n 3, 1) := by decide +kernel
theorem dX12_believe_16 : decode cX12_believe 16 = .ok (.iconst 0, 1) := by decide +kernel
theorem dX12_believe_17 : decode cX12_believe 17 = .ok (.bipush 10, 2) := by decide +kernel
theorem dX12_believe_19 : decode cX12_believe 19 = .ok (.invokestatic 107, 3) := by decide +kernel
theorem dX12_believe_22 : decode cX12_believe 22 = .ok (.ifCond .ne 6, 3) := by decide +kernel
theorem dX12_believe_25 : decode cX12_believe 25 = .ok (.bipush (-2), 2) := by decide +kernel
theorem dX12_believe_27 : decode cX12_believe 27 = .ok (.ireturn, 1) := by decide +kernel
theorem dX12_believe_28 : decode cX12_believe 28 = .ok (.aload_n 0, 1) := by decide +kernel
theorem dX12_believe_29 : decode cX12_believe 29 = .ok (.getfield 41, 3) := by decide +kernel
theorem dX12_believe_32 : decode cX12_believe 32 = .ok (.bipush 11, 2) := by decide +kernel
theorem dX12_believe_34 : decode cX12_believe 34 = .ok (.iload_n 1, 1) := by decide +kernel
theorem dX12_believe_35 : decode cX12_believe 35 = .ok (.imul, 1) := by decide +kernel
theorem dX12_believe_36 : decode cX12_believe 36 = .ok (.iload_n 2, 1) := by decide +kernel
theorem dX12_believe_37 : decode cX12_believe 37 = .ok (.iadd, 1) := by decide +kernel
theorem dX12_believe_38 : decode cX12_believe 38 = .ok (.iaload, 1) := by decide +kernel
theorem dX12_believe_39 : decode cX12_believe 39 = .ok (.istore 4, 2) := by decide +kernel
theorem dX12_believe_41 : decode cX12_believe 41 = .ok (.aload_n 0, 1) := by decide +kernel
theorem dX12_believe_42 : decode cX12_believe 42 = .ok (.getfield 41, 3) := by decide +kernel
theorem dX12_believe_45 : decode cX12_believe 45 = .ok (.bipush 11, 2) := by decide +kernel
theorem dX12_believe_47 : decode cX12_believe 47 = .ok (.iload_n 1, 1) := by decide +kernel
theorem dX12_believe_48 : decode cX12_believe 48 = .ok (.imul, 1) := by decide +kernel
theorem dX12_believe_49 : decode cX12_believe 49 = .ok (.iload_n 2, 1) := by decide +kernel
theorem dX12_believe_50 : decode cX12_believe 50 = .ok (.iadd, 1) := by decide +kernel
theorem dX12_believe_51 : decode cX12_believe 51 = .ok (.iload_n 3, 1) := by decide +kernel
theorem dX12_believe_52 : decode cX12_believe 52 = .ok (.iastore, 1) := by decide +kernel
theorem dX12_believe_53 : decode cX12_believe 53 = .ok (.iload 4, 2) := by decide +kernel
theorem dX12_believe_55 : decode cX12_believe 55 = .ok (.ireturn, 1) := by decide +kernel
theorem dX12_hisNow_0 : decode cX12_hisNow 0 = .ok (.iconst 0, 1) := by decide +kernel
theorem dX12_hisNow_1 : decode cX12_hisNow 1 = .ok (.istore_n 2, 1) := by decide +kernel
theorem dX12_hisNow_2 : decode cX12_hisNow 2 = .ok (.iconst 1, 1) := by decide +kernel
theorem dX12_hisNow_3 : decode cX12_hisNow 3 = .ok (.istore_n 3, 1) := by decide +kernel
theorem dX12_hisNow_4 : decode cX12_hisNow 4 = .ok (.iload_n 3, 1) := by decide +kernel
theorem dX12_hisNow_5 : decode cX12_hisNow 5 = .ok (.bipush 11, 2) := by decide +kernel
theorem dX12_hisNow_7 : decode cX12_hisNow 7 = .ok (.if_icmp .ge 50, 3) := by decide +kernel
theorem dX12_hisNow_10 : decode cX12_hisNow 10 = .ok (.bipush 10, 2) := by decide +kernel
theorem dX12_hisNow_12 : decode cX12_hisNow 12 = .ok (.iload_n 3, 1) := by decide +kernel
theorem dX12_hisNow_13 : decode cX12_hisNow 13 = .ok (.isub, 1) := by decide +kernel
theorem dX12_hisNow_14 : decode cX12_hisNow 14 = .ok (.aload_n 0, 1) := by decide +kernel
theorem dX12_hisNow_15 : decode cX12_hisNow 15 = .ok (.getfield 41, 3) := by decide +kernel
theorem dX12_hisNow_18 : decode cX12_hisNow 18 = .ok (.bipush 11, 2) := by decide +kernel
theorem dX12_hisNow_20 : decode cX12_hisNow 20 = .ok (.iload_n 1, 1) := by decide +kernel
theorem dX12_hisNow_21 : decode cX12_hisNow 21 = .ok (.imul, 1) := by decide +kernel
theorem dX12_hisNow_22 : decode cX12_hisNow 22 = .ok (.iload_n 3, 1) := by decide +kernel
theorem dX12_hisNow_23 : decode cX12_hisNow 23 = .ok (.iadd, 1) := by decide +kernel
theorem dX12_hisNow_24 : decode cX12_hisNow 24 = .ok (.iaload, 1) := by decide +kernel
theorem dX12_hisNow_25 : decode cX12_hisNow 25 = .ok (.imul, 1) := by decide +kernel
theorem dX12_hisNow_26 : decode cX12_hisNow 26 = .ok (.bipush 10, 2) := by decide +kernel
theorem dX12_hisNow_28 : decode cX12_hisNow 28 = .ok (.iload_n 2, 1) := by decide +kernel
theorem dX12_hisNow_29 : decode cX12_hisNow 29 = .ok (.isub, 1) := by decide +kernel
theorem dX12_hisNow_30 : decode cX12_hisNow 30 = .ok (.aload_n 0, 1) := by decide +kernel
theorem dX12_hisNow_31 : decode cX12_hisNow 31 = .ok (.getfield 41, 3) := by decide +kernel
theorem dX12_hisNow_34 : decode cX12_hisNow 34 = .ok (.bipush 11, 2) := by decide +kernel
theorem dX12_hisNow_36 : decode cX12_hisNow 36 = .ok (.iload_n 1, 1) := by decide +kernel
theorem dX12_hisNow_37 : decode cX12_hisNow 37 = .ok (.imul, 1) := by decide +kernel
theorem dX12_hisNow_38 : decode cX12_hisNow 38 = .ok (.iload_n 2, 1) := by decide +kernel
theorem dX12_hisNow_39 : decode cX12_hisNow 39 = .ok (.iadd, 1) := by decide +kernel
theorem dX12_hisNow_40 : decode cX12_hisNow 40 = .ok (.iaload, 1) := by decide +kernel
theorem dX12_hisNow_41 : decode cX12_hisNow 41 = .ok (.imul, 1) := by decide +kernel
theorem dX12_hisNow_42 : decode cX12_hisNow 42 = .ok (.if_icmp .le 7, 3) := by decide +kernel
theorem dX12_hisNow_45 : decode cX12_hisNow 45 = .ok (.iload_n 3, 1) := by decide +kernel
theorem dX12_hisNow_46 : decode cX12_hisNow 46 = .ok (.goto 4, 3) := by decide +kernel
theorem dX12_hisNow_49 : decode cX12_hisNow 49 = .ok (.iload_n 2, 1) := by decide +kernel
theorem dX12_hisNow_50 : decode cX12_hisNow 50 = .ok (.istore_n 2, 1) := by decide +kernel
theorem dX12_hisNow_51 : decode cX12_hisNow 51 = .ok (.iinc 3 1, 3) := by decide +kernel
theorem dX12_hisNow_54 : decode cX12_hisNow 54 = .ok (.goto (-50), 3) := by decide +kernel
theorem dX12_hisNow_57 : decode cX12_hisNow 57 = .ok (.iload_n 2, 1) := by decide +kernel
theorem dX12_hisNow_58 : decode cX12_hisNow 58 = .ok (.ireturn, 1) := by decide +kernel
theorem dX12_hisBest_0 : decode cX12_hisBest 0 = .ok (.aload_n 0, 1) := by decide +kernel
theorem dX12_hisBest_1 : decode cX12_hisBest 1 = .ok (.iload_n 1, 1) := by decide +kernel
theorem dX12_hisBest_2 : decode cX12_hisBest 2 = .ok (.invokevirtual 198, 3) := by decide +kernel
theorem dX12_hisBest_5 : decode cX12_hisBest 5 = .ok (.ifCond .eq 11, 3) := by decide +kernel
theorem dX12_hisBest_8 : decode cX12_hisBest 8 = .ok (.aload_n 0, 1) := by decide +kernel
theorem dX12_hisBest_9 : decode cX12_hisBest 9 = .ok (.iload_n 1, 1) := by decide +kernel
theorem dX12_hisBest_10 : decode cX12_hisBest 10 = .ok (.invokevirtual 201, 3) := by decide +kernel
theorem dX12_hisBest_13 : decode cX12_hisBest 13 = .ok (.goto 5, 3) := by decide +kernel
theorem dX12_hisBest_16 : decode cX12_hisBest 16 = .ok (.bipush (-2), 2) := by decide +kernel
theorem dX12_hisBest_18 : decode cX12_hisBest 18 = .ok (.ireturn, 1) := by decide +kernel
theorem dX12_off_0 : decode cX12_off 0 = .ok (.aload_n 0, 1) := by decide +kernel
theorem dX12_off_1 : decode cX12_off 1 = .ok (.iload_n 1, 1) := by decide +kernel
theorem dX12_off_2 : decode cX12_off 2 = .ok (.invokevirtual 198, 3) := by decide +kernel
theorem dX12_off_5 : decode cX12_off 5 = .ok (.ifCond .eq 21, 3) := by decide +kernel
theorem dX12_off_8 : decode cX12_off 8 = .ok (.iload_n 2, 1) := by decide +kernel
theorem dX12_off_9 : decode cX12_off 9 = .ok (.iconst 0, 1) := by decide +kernel
theorem dX12_off_10 : decode cX12_off 10 = .ok (.iconst 1, 1) := by decide +kernel
theorem dX12_off_11 : decode cX12_off 11 = .ok (.invokestatic 107, 3) := by decide +kernel
theorem dX12_off_14 : decode cX12_off 14 = .ok (.ifCond .eq 12, 3) := by decide +kernel
theorem dX12_off_17 : decode cX12_off 17 = .ok (.iload_n 3, 1) := by decide +kernel
theorem dX12_off_18 : decode cX12_off 18 = .ok (.iconst 0, 1) := by decide +kernel
theorem dX12_off_19 : decode cX12_off 19 = .ok (.iconst 1, 1) := by decide +kernel
theorem dX12_off_20 : decode cX12_off 20 = .ok (.invokestatic 107, 3) := by decide +kernel
theorem dX12_off_23 : decode cX12_off 23 = .ok (.ifCond .ne 9, 3) := by decide +kernel
theorem dX12_off_26 : decode cX12_off 26 = .ok (.bipush (-2), 2) := by decide +kernel
theorem dX12_off_28 : decode cX12_off 28 = .ok (.invokestatic 161, 3) := by decide +kernel
theorem dX12_off_31 : decode cX12_off 31 = .ok (.lreturn, 1) := by decide +kernel
theorem dX12_off_32 : decode cX12_off 32 = .ok (.aload_n 0, 1) := by decide +kernel
theorem dX12_off_33 : decode cX12_off 33 = .ok (.getfield 38, 3) := by decide +kernel
theorem dX12_off_36 : decode cX12_off 36 = .ok (.iload_n 1, 1) := by decide +kernel
theorem dX12_off_37 : decode cX12_off 37 = .ok (.iaload, 1) := by decide +kernel
theorem dX12_off_38 : decode cX12_off 38 = .ok (.istore 4, 2) := by decide +kernel
theorem dX12_off_40 : decode cX12_off 40 = .ok (.aload_n 0, 1) := by decide +kernel
theorem dX12_off_41 : decode cX12_off 41 = .ok (.iload 4, 2) := by decide +kernel
theorem dX12_off_43 : decode cX12_off 43 = .ok (.invokevirtual 186, 3) := by decide +kernel
theorem dX12_off_46 : decode cX12_off 46 = .ok (.istore 5, 2) := by decide +kernel
theorem dX12_off_48 : decode cX12_off 48 = .ok (.iload 5, 2) := by decide +kernel
theorem dX12_off_50 : decode cX12_off 50 = .ok (.ifCond .ne 9, 3) := by decide +kernel
theorem dX12_off_53 : decode cX12_off 53 = .ok (.bipush (-3), 2) := by decide +kernel
theorem dX12_off_55 : decode cX12_off 55 = .ok (.invokestatic 161, 3) := by decide +kernel
theorem dX12_off_58 : decode cX12_off 58 = .ok (.lreturn, 1) := by decide +kernel
theorem dX12_off_59 : decode cX12_off 59 = .ok (.iload_n 2, 1) := by decide +kernel
theorem dX12_off_60 : decode cX12_off 60 = .ok (.iconst 1, 1) := by decide +kernel
theorem dX12_off_61 : decode cX12_off 61 = .ok (.if_icmp .ne 56, 3) := by decide +kernel
theorem dX12_off_64 : decode cX12_off 64 = .ok (.aload_n 0, 1) := by decide +kernel
theorem dX12_off_65 : decode cX12_off 65 = .ok (.iload 4, 2) := by decide +kernel
theorem dX12_off_67 : decode cX12_off 67 = .ok (.invokevirtual 192, 3) := by decide +kernel
theorem dX12_off_70 : decode cX12_off 70 = .ok (.istore 6, 2) := by decide +kernel
theorem dX12_off_72 : decode cX12_off 72 = .ok (.aload_n 0, 1) := by decide +kernel
theorem dX12_off_73 : decode cX12_off 73 = .ok (.iload_n 1, 1) := by decide +kernel
theorem dX12_off_74 : decode cX12_off 74 = .ok (.invokevirtual 201, 3) := by decide +kernel
theorem dX12_off_77 : decode cX12_off 77 = .ok (.istore 7, 2) := by decide +kernel
theorem dX12_off_79 : decode cX12_off 79 = .ok (.bipush 10, 2) := by decide +kernel
theorem dX12_off_81 : decode cX12_off 81 = .ok (.iload 6, 2) := by decide +kernel
theorem dX12_off_83 : decode cX12_off 83 = .ok (.isub, 1) := by decide +kernel
theorem dX12_off_84 : decode cX12_off 84 = .ok (.aload_n 0, 1) := by decide +kernel
theorem dX12_off_85 : decode cX12_off 85 = .ok (.iload 4, 2) := by decide +kernel
theorem dX12_off_87 : decode cX12_off 87 = .ok (.iload 6, 2) := by decide +kernel
theorem dX12_off_89 : decode cX12_off 89 = .ok (.invokevirtual 189, 3) := by decide +kernel
theorem dX12_off_92 : decode cX12_off 92 = .ok (.imul, 1) := by decide +kernel
theorem dX12_off_93 : decode cX12_off 93 = .ok (.bipush 10, 2) := by decide +kernel
theorem dX12_off_95 : decode cX12_off 95 = .ok (.iload 7, 2) := by decide +kernel
theorem dX12_off_97 : decode cX12_off 97 = .ok (.isub, 1) := by decide +kernel
theorem dX12_off_98 : decode cX12_off 98 = .ok (.aload_n 0, 1) := by decide +kernel
theorem dX12_off_99 : decode cX12_off 99 = .ok (.iload 4, 2) := by decide +kernel
theorem dX12_off_101 : decode cX12_off 101 = .ok (.iload 7, 2) := by decide +kernel
theorem dX12_off_103 : decode cX12_off 103 = .ok (.invokevirtual 189, 3) := by decide +kernel
theorem dX12_off_106 : decode cX12_off 106 = .ok (.imul, 1) := by decide +kernel
theorem dX12_off_107 : decode cX12_off 107 = .ok (.isub, 1) := by decide +kernel
theorem dX12_off_108 : decode cX12_off 108 = .ok (.i2l, 1) := by decide +kernel
theorem dX12_off_109 : decode cX12_off 109 = .ok (.iload 5, 2) := by decide +kernel
theorem dX12_off_111 : decode cX12_off 111 = .ok (.i2l, 1) := by decide +kernel
theorem dX12_off_112 : decode cX12_off 112 = .ok (.iload_n 3, 1) := by decide +kernel
theorem dX12_off_113 : decode cX12_off 113 = .ok (.invokestatic 168, 3) := by decide +kernel
theorem dX12_off_116 : decode cX12_off 116 = .ok (.lreturn, 1) := by decide +kernel
theorem dX12_off_117 : decode cX12_off 117 = .ok (.iconst 0, 1) := by decide +kernel
theorem dX12_off_118 : decode cX12_off 118 = .ok (.istore 6, 2) := by decide +kernel
theorem dX12_off_120 : decode cX12_off 120 = .ok (.iconst 0, 1) := by decide +kernel
theorem dX12_off_121 : decode cX12_off 121 = .ok (.istore 7, 2) := by decide +kernel
theorem dX12_off_123 : decode cX12_off 123 = .ok (.iload 7, 2) := by decide +kernel
theorem dX12_off_125 : decode cX12_off 125 = .ok (.bipush 11, 2) := by decide +kernel
theorem dX12_off_127 : decode cX12_off 127 = .ok (.if_icmp .ge 44, 3) := by decide +kernel
theorem dX12_off_130 : decode cX12_off 130 = .ok (.iload 6, 2) := by decide +kernel
theorem dX12_off_132 : decode cX12_off 132 = .ok (.aload_n 0, 1) := by decide +kernel
theorem dX12_off_133 : decode cX12_off 133 = .ok (.getfield 41, 3) := by decide +kernel
theorem dX12_off_136 : decode cX12_off 136 = .ok (.bipush 11, 2) := by decide +kernel
theorem dX12_off_138 : decode cX12_off 138 = .ok (.iload_n 1, 1) := by decide +kernel
theorem dX12_off_139 : decode cX12_off 139 = .ok (.imul, 1) := by decide +kernel
theorem dX12_off_140 : decode cX12_off 140 = .ok (.iload 7, 2) := by decide +kernel
theorem dX12_off_142 : decode cX12_off 142 = .ok (.iadd, 1) := by decide +kernel
theorem dX12_off_143 : decode cX12_off 143 = .ok (.iaload, 1) := by decide +kernel
theorem dX12_off_144 : decode cX12_off 144 = .ok (.iload 5, 2) := by decide +kernel
theorem dX12_off_146 : decode cX12_off 146 = .ok (.imul, 1) := by decide +kernel
theorem dX12_off_147 : decode cX12_off 147 = .ok (.bipush 10, 2) := by decide +kernel
theorem dX12_off_149 : decode cX12_off 149 = .ok (.aload_n 0, 1) := by decide +kernel
theorem dX12_off_150 : decode cX12_off 150 = .ok (.iload 4, 2) := by decide +kernel
theorem dX12_off_152 : decode cX12_off 152 = .ok (.iload 7, 2) := by decide +kernel
theorem dX12_off_154 : decode cX12_off 154 = .ok (.invokevirtual 189, 3) := by decide +kernel
theorem dX12_off_157 : decode cX12_off 157 = .ok (.imul, 1) := by decide +kernel
theorem dX12_off_158 : decode cX12_off 158 = .ok (.isub, 1) := by decide +kernel
theorem dX12_off_159 : decode cX12_off 159 = .ok (.invokestatic 204, 3) := by decide +kernel
theorem dX12_off_162 : decode cX12_off 162 = .ok (.iadd, 1) := by decide +kernel
theorem dX12_off_163 : decode cX12_off 163 = .ok (.istore 6, 2) := by decide +kernel
theorem dX12_off_165 : decode cX12_off 165 = .ok (.iinc 7 1, 3) := by decide +kernel
theorem dX12_off_168 : decode cX12_off 168 = .ok (.goto (-45), 3) := by decide +kernel
theorem dX12_off_171 : decode cX12_off 171 = .ok (.iload 6, 2) := by decide +kernel
theorem dX12_off_173 : decode cX12_off 173 = .ok (.i2l, 1) := by decide +kernel
theorem dX12_off_174 : decode cX12_off 174 = .ok (.ldc2_w 207, 3) := by decide +kernel
theorem dX12_off_177 : decode cX12_off 177 = .ok (.iload 5, 2) := by decide +kernel
theorem dX12_off_179 : decode cX12_off 179 = .ok (.i2l, 1) := by decide +kernel
theorem dX12_off_180 : decode cX12_off 180 = .ok (.lmul, 1) := by decide +kernel
theorem dX12_off_181 : decode cX12_off 181 = .ok (.iload_n 3, 1) := by decide +kernel
theorem dX12_off_182 : decode cX12_off 182 = .ok (.invokestatic 168, 3) := by decide +kernel
theorem dX12_off_185 : decode cX12_off 185 = .ok (.lreturn, 1) := by decide +kernel
theorem dX12_type_0 : decode cX12_type 0 = .ok (.iload_n 1, 1) := by decide +kernel
theorem dX12_type_1 : decode cX12_type 1 = .ok (.iconst 0, 1) := by decide +kernel
theorem dX12_type_2 : decode cX12_type 2 = .ok (.sipush 255, 3) := by decide +kernel
theorem dX12_type_5 : decode cX12_type 5 = .ok (.invokestatic 107, 3) := by decide +kernel
theorem dX12_type_8 : decode cX12_type 8 = .ok (.ifCond .ne 6, 3) := by decide +kernel
theorem dX12_type_11 : decode cX12_type 11 = .ok (.bipush (-2), 2) := by decide +kernel
theorem dX12_type_13 : decode cX12_type 13 = .ok (.ireturn, 1) := by decide +kernel
theorem dX12_type_14 : decode cX12_type 14 = .ok (.aload_n 0, 1) := by decide +kernel
theorem dX12_type_15 : decode cX12_type 15 = .ok (.getfield 209, 3) := by decide +kernel
theorem dX12_type_18 : decode cX12_type 18 = .ok (.bipush 60, 2) := by decide +kernel
theorem dX12_type_20 : decode cX12_type 20 = .ok (.if_icmp .ne 6, 3) := by decide +kernel
theorem dX12_type_23 : decode cX12_type 23 = .ok (.bipush (-4), 2) := by decide +kernel
theorem dX12_type_25 : decode cX12_type 25 = .ok (.ireturn, 1) := by decide +kernel
theorem dX12_type_26 : decode cX12_type 26 = .ok (.aload_n 0, 1) := by decide +kernel
theorem dX12_type_27 : decode cX12_type 27 = .ok (.getfield 44, 3) := by decide +kernel
theorem dX12_type_30 : decode cX12_type 30 = .ok (.aload_n 0, 1) := by decide +kernel
theorem dX12_type_31 : decode cX12_type 31 = .ok (.getfield 209, 3) := by decide +kernel
theorem dX12_type_34 : decode cX12_type 34 = .ok (.iload_n 1, 1) := by decide +kernel
theorem dX12_type_35 : decode cX12_type 35 = .ok (.iastore, 1) := by decide +kernel
theorem dX12_type_36 : decode cX12_type 36 = .ok (.aload_n 0, 1) := by decide +kernel
theorem dX12_type_37 : decode cX12_type 37 = .ok (.dup, 1) := by decide +kernel
theorem dX12_type_38 : decode cX12_type 38 = .ok (.getfield 209, 3) := by decide +kernel
theorem dX12_type_41 : decode cX12_type 41 = .ok (.iconst 1, 1) := by decide +kernel
theorem dX12_type_42 : decode cX12_type 42 = .ok (.iadd, 1) := by decide +kernel
theorem dX12_type_43 : decode cX12_type 43 = .ok (.putfield 209, 3) := by decide +kernel
theorem dX12_type_46 : decode cX12_type 46 = .ok (.aload_n 0, 1) := by decide +kernel
theorem dX12_type_47 : decode cX12_type 47 = .ok (.getfield 209, 3) := by decide +kernel
theorem dX12_type_50 : decode cX12_type 50 = .ok (.ireturn, 1) := by decide +kernel
theorem dX12_wipe_0 : decode cX12_wipe 0 = .ok (.aload_n 0, 1) := by decide +kernel
theorem dX12_wipe_1 : decode cX12_wipe 1 = .ok (.getfield 209, 3) := by decide +kernel
theorem dX12_wipe_4 : decode cX12_wipe 4 = .ok (.istore_n 1, 1) := by decide +kernel
theorem dX12_wipe_5 : decode cX12_wipe 5 = .ok (.aload_n 0, 1) := by decide +kernel
theorem dX12_wipe_6 : decode cX12_wipe 6 = .ok (.iconst 0, 1) := by decide +kernel
theorem dX12_wipe_7 : decode cX12_wipe 7 = .ok (.putfield 209, 3) := by decide +kernel
theorem dX12_wipe_10 : decode cX12_wipe 10 = .ok (.iload_n 1, 1) := by decide +kernel
theorem dX12_wipe_11 : decode cX12_wipe 11 = .ok (.ireturn, 1) := by decide +kernel
theorem dX12_byteAt_0 : decode cX12_byteAt 0 = .ok (.iload_n 1, 1) := by decide +kernel
theorem dX12_byteAt_1 : decode cX12_byteAt 1 = .ok (.aload_n 0, 1) := by decide +kernel
theorem dX12_byteAt_2 : decode cX12_byteAt 2 = .ok (.getfield 209, 3) := by decide +kernel
theorem dX12_byteAt_5 : decode cX12_byteAt 5 = .ok (.if_icmp .ge 12, 3) := by decide +kernel
theorem dX12_byteAt_8 : decode cX12_byteAt 8 = .ok (.aload_n 0, 1) := by decide +kernel
theorem dX12_byteAt_9 : decode cX12_byteAt 9 = .ok (.getfield 44, 3) := by decide +kernel
theorem dX12_byteAt_12 : decode cX12_byteAt 12 = .ok (.iload_n 1, 1) := by decide +kernel
theorem dX12_byteAt_13 : decode cX12_byteAt 13 = .ok (.iaload, 1) := by decide +kernel
theorem dX12_byteAt_14 : decode cX12_byteAt 14 = .ok (.goto 4, 3) := by decide +kernel
theorem dX12_byteAt_17 : decode cX12_byteAt 17 = .ok (.iconst (-1), 1) := by decide +kernel
theorem dX12_byteAt_18 : decode cX12_byteAt 18 = .ok (.ireturn, 1) := by decide +kernel
theorem dX12_nodeMore_0 : decode cX12_nodeMore 0 = .ok (.aload_n 0, 1) := by decide +kernel
theorem dX12_nodeMore_1 : decode cX12_nodeMore 1 = .ok (.getfield 47, 3) := by decide +kernel
theorem dX12_nodeMore_4 : decode cX12_nodeMore 4 = .ok (.aload_n 0, 1) := by decide +kernel
theorem dX12_nodeMore_5 : decode cX12_nodeMore 5 = .ok (.getfield 212, 3) := by decide +kernel
theorem dX12_nodeMore_8 : decode cX12_nodeMore 8 = .ok (.iload_n 1, 1) := by decide +kernel
theorem dX12_nodeMore_9 : decode cX12_nodeMore 9 = .ok (.iastore, 1) := by decide +kernel
theorem dX12_nodeMore_10 : decode cX12_nodeMore 10 = .ok (.aload_n 0, 1) := by decide +kernel
theorem dX12_nodeMore_11 : decode cX12_nodeMore 11 = .ok (.getfield 50, 3) := by decide +kernel
theorem dX12_nodeMore_14 : decode cX12_nodeMore 14 = .ok (.aload_n 0, 1) := by decide +kernel
theorem dX12_nodeMore_15 : decode cX12_nodeMore 15 = .ok (.getfield 212, 3) := by decide +kernel
theorem dX12_nodeMore_18 : decode cX12_nodeMore 18 = .ok (.iload_n 2, 1) := by decide +kernel
theorem dX12_nodeMore_19 : decode cX12_nodeMore 19 = .ok (.iastore, 1) := by decide +kernel
theorem dX12_nodeMore_20 : decode cX12_nodeMore 20 = .ok (.aload_n 0, 1) := by decide +kernel
theorem dX12_nodeMore_21 : decode cX12_nodeMore 21 = .ok (.getfield 56, 3) := by decide +kernel
theorem dX12_nodeMore_24 : decode cX12_nodeMore 24 = .ok (.aload_n 0, 1) := by decide +kernel
theorem dX12_nodeMore_25 : decode cX12_nodeMore 25 = .ok (.getfield 212, 3) := by decide +kernel
theorem dX12_nodeMore_28 : decode cX12_nodeMore 28 = .ok (.iconst 0, 1) := by decide +kernel
theorem dX12_nodeMore_29 : decode cX12_nodeMore 29 = .ok (.iastore, 1) := by decide +kernel
theorem dX12_nodeMore_30 : decode cX12_nodeMore 30 = .ok (.aload_n 0, 1) := by decide +kernel
theorem dX12_nodeMore_31 : decode cX12_nodeMore 31 = .ok (.getfield 53, 3) := by decide +kernel
theorem dX12_nodeMore_34 : decode cX12_nodeMore 34 = .ok (.aload_n 0, 1) := by decide +kernel
theorem dX12_nodeMore_35 : decode cX12_nodeMore 35 = .ok (.getfield 212, 3) := by decide +kernel
theorem dX12_nodeMore_38 : decode cX12_nodeMore 38 = .ok (.iload_n 2, 1) := by decide +kernel
theorem dX12_nodeMore_39 : decode cX12_nodeMore 39 = .ok (.iconst (-1), 1) := by decide +kernel
theorem dX12_nodeMore_40 : decode cX12_nodeMore 40 = .ok (.if_icmp .ne 7, 3) := by decide +kernel
theorem dX12_nodeMore_43 : decode cX12_nodeMore 43 = .ok (.iconst 0, 1) := by decide +kernel
theorem dX12_nodeMore_44 : decode cX12_nodeMore 44 = .ok (.goto 9, 3) := by decide +kernel
theorem dX12_nodeMore_47 : decode cX12_nodeMore 47 = .ok (.aload_n 0, 1) := by decide +kernel
theorem dX12_nodeMore_48 : decode cX12_nodeMore 48 = .ok (.getfield 56, 3) := by decide +kernel
theorem dX12_nodeMore_51 : decode cX12_nodeMore 51 = .ok (.iload_n 2, 1) := by decide +kernel
theorem dX12_nodeMore_52 : decode cX12_nodeMore 52 = .ok (.iaload, 1) := by decide +kernel
theorem dX12_nodeMore_53 : decode cX12_nodeMore 53 = .ok (.iastore, 1) := by decide +kernel
theorem dX12_nodeMore_54 : decode cX12_nodeMore 54 = .ok (.iload_n 2, 1) := by decide +kernel
theorem dX12_nodeMore_55 : decode cX12_nodeMore 55 = .ok (.iconst (-1), 1) := by decide +kernel
theorem dX12_nodeMore_56 : decode cX12_nodeMore 56 = .ok (.if_icmp .eq 13, 3) := by decide +kernel
theorem dX12_nodeMore_59 : decode cX12_nodeMore 59 = .ok (.aload_n 0, 1) := by decide +kernel
theorem dX12_nodeMore_60 : decode cX12_nodeMore 60 = .ok (.getfield 56, 3) := by decide +kernel
theorem dX12_nodeMore_63 : decode cX12_nodeMore 63 = .ok (.iload_n 2, 1) := by decide +kernel
theorem dX12_nodeMore_64 : decode cX12_nodeMore 64 = .ok (.dup2, 1) := by decide +kernel
theorem dX12_nodeMore_65 : decode cX12_nodeMore 65 = .ok (.iaload, 1) := by decide +kernel
theorem dX12_nodeMore_66 : decode cX12_nodeMore 66 = .ok (.iconst 1, 1) := by decide +kernel
theorem dX12_nodeMore_67 : decode cX12_nodeMore 67 = .ok (.iadd, 1) := by decide +kernel
theorem dX12_nodeMore_68 : decode cX12_nodeMore 68 = .ok (.iastore, 1) := by decide +kernel
theorem dX12_nodeMore_69 : decode cX12_nodeMore 69 = .ok (.aload_n 0, 1) := by decide +kernel
theorem dX12_nodeMore_70 : decode cX12_nodeMore 70 = .ok (.dup, 1) := by decide +kernel
theorem dX12_nodeMore_71 : decode cX12_nodeMore 71 = .ok (.getfield 212, 3) := by decide +kernel
theorem dX12_nodeMore_74 : decode cX12_nodeMore 74 = .ok (.iconst 1, 1) := by decide +kernel
theorem dX12_nodeMore_75 : decode cX12_nodeMore 75 = .ok (.iadd, 1) := by decide +kernel
theorem dX12_nodeMore_76 : decode cX12_nodeMore 76 = .ok (.putfield 212, 3) := by decide +kernel
theorem dX12_nodeMore_79 : decode cX12_nodeMore 79 = .ok (.return_, 1) := by decide +kernel
theorem dX12_faultNow_0 : decode cX12_faultNow 0 = .ok (.aload_n 0, 1) := by decide +kernel
theorem dX12_faultNow_1 : decode cX12_faultNow 1 = .ok (.iconst 0, 1) := by decide +kernel
theorem dX12_faultNow_2 : decode cX12_faultNow 2 = .ok (.putfield 212, 3) := by decide +kernel
theorem dX12_faultNow_5 : decode cX12_faultNow 5 = .ok (.iconst 0, 1) := by decide +kernel
theorem dX12_faultNow_6 : decode cX12_faultNow 6 = .ok (.istore_n 1, 1) := by decide +kernel
theorem dX12_faultNow_7 : decode cX12_faultNow 7 = .ok (.iconst (-1), 1) := by decide +kernel
theorem dX12_faultNow_8 : decode cX12_faultNow 8 = .ok (.istore_n 2, 1) := by decide +kernel
theorem dX12_faultNow_9 : decode cX12_faultNow 9 = .ok (.aload_n 0, 1) := by decide +kernel
theorem dX12_faultNow_10 : decode cX12_faultNow 10 = .ok (.iload_n 1, 1) := by decide +kernel
theorem dX12_faultNow_11 : decode cX12_faultNow 11 = .ok (.invokevirtual 215, 3) := by decide +kernel
theorem dX12_faultNow_14 : decode cX12_faultNow 14 = .ok (.istore_n 3, 1) := by decide +kernel
theorem dX12_faultNow_15 : decode cX12_faultNow 15 = .ok (.iload_n 3, 1) := by decide +kernel
theorem dX12_faultNow_16 : decode cX12_faultNow 16 = .ok (.bipush 103, 2) := by decide +kernel
theorem dX12_faultNow_18 : decode cX12_faultNow 18 = .ok (.if_icmp .ne 7, 3) := by decide +kernel
theorem dX12_faultNow_21 : decode cX12_faultNow 21 = .ok (.iconst 0, 1) := by decide +kernel
theorem dX12_faultNow_22 : decode cX12_faultNow 22 = .ok (.goto 24, 3) := by decide +kernel
theorem dX12_faultNow_25 : decode cX12_faultNow 25 = .ok (.iload_n 3, 1) := by decide +kernel
theorem dX12_faultNow_26 : decode cX12_faultNow 26 = .ok (.bipush 97, 2) := by decide +kernel
theorem dX12_faultNow_28 : decode cX12_faultNow 28 = .ok (.if_icmp .ne 7, 3) := by decide +kernel
theorem dX12_faultNow_31 : decode cX12_faultNow 31 = .ok (.iconst 1, 1) := by decide +kernel
theorem dX12_faultNow_32 : decode cX12_faultNow 32 = .ok (.goto 14, 3) := by decide +kernel
theorem dX12_faultNow_35 : decode cX12_faultNow 35 = .ok (.iload_n 3, 1) := by decide +kernel
theorem dX12_faultNow_36 : decode cX12_faultNow 36 = .ok (.bipush 116, 2) := by decide +kernel
theorem dX12_faultNow_38 : decode cX12_faultNow 38 = .ok (.if_icmp .ne 7, 3) := by decide +kernel
theorem dX12_faultNow_41 : decode cX12_faultNow 41 = .ok (.iconst 2, 1) := by decide +kernel
theorem dX12_faultNow_42 : decode cX12_faultNow 42 = .ok (.goto 4, 3) := by decide +kernel
theorem dX12_faultNow_45 : decode cX12_faultNow 45 = .ok (.iconst 3, 1) := by decide +kernel
theorem dX12_faultNow_46 : decode cX12_faultNow 46 = .ok (.istore 4, 2) := by decide +kernel
theorem dX12_faultNow_48 : decode cX12_faultNow 48 = .ok (.iload 4, 2) := by decide +kernel
theorem dX12_faultNow_50 : decode cX12_faultNow 50 = .ok (.iconst 3, 1) := by decide +kernel
theorem dX12_faultNow_51 : decode cX12_faultNow 51 = .ok (.if_icmp .ge 38, 3) := by decide +kernel
theorem dX12_faultNow_54 : decode cX12_faultNow 54 = .ok (.aload_n 0, 1) := by decide +kernel
theorem dX12_faultNow_55 : decode cX12_faultNow 55 = .ok (.iload 4, 2) := by decide +kernel
theorem dX12_faultNow_57 : decode cX12_faultNow 57 = .ok (.iload_n 2, 1) := by decide +kernel
theorem dX12_faultNow_58 : decode cX12_faultNow 58 = .ok (.invokevirtual 218, 3) := by decide +kernel
theorem dX12_faultNow_61 : decode cX12_faultNow 61 = .ok (.iinc 1 1, 3) := by decide +kernel
theorem dX12_faultNow_64 : decode cX12_faultNow 64 = .ok (.aload_n 0, 1) := by decide +kernel
theorem dX12_faultNow_65 : decode cX12_faultNow 65 = .ok (.iload_n 1, 1) := by decide +kernel
theorem dX12_faultNow_66 : decode cX12_faultNow 66 = .ok (.invokevirtual 215, 3) := by decide +kernel
theorem dX12_faultNow_69 : decode cX12_faultNow 69 = .ok (.bipush 40, 2) := by decide +kernel
theorem dX12_faultNow_71 : decode cX12_faultNow 71 = .ok (.if_icmp .eq 5, 3) := by decide +kernel
theorem dX12_faultNow_74 : decode cX12_faultNow 74 = .ok (.iload_n 1, 1) := by decide +kernel
theorem dX12_faultNow_75 : decode cX12_faultNow 75 = .ok (.ireturn, 1) := by decide +kernel
theorem dX12_faultNow_76 : decode cX12_faultNow 76 = .ok (.iinc 1 1, 3) := by decide +kernel
theorem dX12_faultNow_79 : decode cX12_faultNow 79 = .ok (.aload_n 0, 1) := by decide +kernel
theorem dX12_faultNow_80 : decode cX12_faultNow 80 = .ok (.getfield 212, 3) := by decide +kernel
theorem dX12_faultNow_83 : decode cX12_faultNow 83 = .ok (.iconst 1, 1) := by decide +kernel
theorem dX12_faultNow_84 : decode cX12_faultNow 84 = .ok (.isub, 1) := by decide +kernel
theorem dX12_faultNow_85 : decode cX12_faultNow 85 = .ok (.istore_n 2, 1) := by decide +kernel
theorem dX12_faultNow_86 : decode cX12_faultNow 86 = .ok (.goto 140, 3) := by decide +kernel
theorem dX12_faultNow_89 : decode cX12_faultNow 89 = .ok (.aload_n 0, 1) := by decide +kernel
theorem dX12_faultNow_90 : decode cX12_faultNow 90 = .ok (.iconst 3, 1) := by decide +kernel
theorem dX12_faultNow_91 : decode cX12_faultNow 91 = .ok (.iload_n 2, 1) := by decide +kernel
theorem dX12_faultNow_92 : decode cX12_faultNow 92 = .ok (.invokevirtual 218, 3) := by decide +kernel
theorem dX12_faultNow_95 : decode cX12_faultNow 95 = .ok (.iconst 0, 1) := by decide +kernel
theorem dX12_faultNow_96 : decode cX12_faultNow 96 = .ok (.istore 5, 2) := by decide +kernel
theorem dX12_faultNow_98 : decode cX12_faultNow 98 = .ok (.iload 5, 2) := by decide +kernel
theorem dX12_faultNow_100 : decode cX12_faultNow 100 = .ok (.iconst 3, 1) := by decide +kernel
theorem dX12_faultNow_101 : decode cX12_faultNow 101 = .ok (.if_icmp .ge 53, 3) := by decide +kernel
theorem dX12_faultNow_104 : decode cX12_faultNow 104 = .ok (.aload_n 0, 1) := by decide +kernel
theorem dX12_faultNow_105 : decode cX12_faultNow 105 = .ok (.iload_n 1, 1) := by decide +kernel
theorem dX12_faultNow_106 : decode cX12_faultNow 106 = .ok (.invokevirtual 215, 3) := by decide +kernel
theorem dX12_faultNow_109 : decode cX12_faultNow 109 = .ok (.bipush 48, 2) := by decide +kernel
theorem dX12_faultNow_111 : decode cX12_faultNow 111 = .ok (.bipush 57, 2) := by decide +kernel
theorem dX12_faultNow_113 : decode cX12_faultNow 113 = .ok (.invokestatic 107, 3) := by decide +kernel
theorem dX12_faultNow_116 : decode cX12_faultNow 116 = .ok (.ifCond .ne 5, 3) := by decide +kernel
theorem dX12_faultNow_119 : decode cX12_faultNow 119 = .ok (.iload_n 1, 1) := by decide +kernel
theorem dX12_faultNow_120 : decode cX12_faultNow 120 = .ok (.ireturn, 1) := by decide +kernel
theorem dX12_faultNow_121 : decode cX12_faultNow 121 = .ok (.aload_n 0, 1) := by decide +kernel
theorem dX12_faultNow_122 : decode cX12_faultNow 122 = .ok (.getfield 65, 3) := by decide +kernel
theorem dX12_faultNow_125 : decode cX12_faultNow 125 = .ok (.iconst 3, 1) := by decide +kernel
theorem dX12_faultNow_126 : decode cX12_faultNow 126 = .ok (.aload_n 0, 1) := by decide +kernel
theorem dX12_faultNow_127 : decode cX12_faultNow 127 = .ok (.getfield 212, 3) := by decide +kernel
theorem dX12_faultNow_130 : decode cX12_faultNow 130 = .ok (.iconst 1, 1) := by decide +kernel
theorem dX12_faultNow_131 : decode cX12_faultNow 131 = .ok (.isub, 1) := by decide +kernel
theorem dX12_faultNow_132 : decode cX12_faultNow 132 = .ok (.imul, 1) := by decide +kernel
theorem dX12_faultNow_133 : decode cX12_faultNow 133 = .ok (.iload 5, 2) := by decide +kernel
theorem dX12_faultNow_135 : decode cX12_faultNow 135 = .ok (.iadd, 1) := by decide +kernel
theorem dX12_faultNow_136 : decode cX12_faultNow 136 = .ok (.aload_n 0, 1) := by decide +kernel
theorem dX12_faultNow_137 : decode cX12_faultNow 137 = .ok (.iload_n 1, 1) := by decide +kernel
theorem dX12_faultNow_138 : decode cX12_faultNow 138 = .ok (.invokevirtual 215, 3) := by decide +kernel
theorem dX12_faultNow_141 : decode cX12_faultNow 141 = .ok (.bipush 48, 2) := by decide +kernel
theorem dX12_faultNow_143 : decode cX12_faultNow 143 = .ok (.isub, 1) := by decide +kernel
theorem dX12_faultNow_144 : decode cX12_faultNow 144 = .ok (.iastore, 1) := by decide +kernel
theorem dX12_faultNow_145 : decode cX12_faultNow 145 = .ok (.iinc 1 1, 3) := by decide +kernel
theorem dX12_faultNow_148 : decode cX12_faultNow 148 = .ok (.iinc 5 1, 3) := by decide +kernel
theorem dX12_faultNow_151 : decode cX12_faultNow 151 = .ok (.goto (-53), 3) := by decide +kernel
theorem dX12_faultNow_154 : decode cX12_faultNow 154 = .ok (.iload_n 2, 1) := by decide +kernel
theorem dX12_faultNow_155 : decode cX12_faultNow 155 = .ok (.iconst (-1), 1) := by decide +kernel
theorem dX12_faultNow_156 : decode cX12_faultNow 156 = .ok (.if_icmp .eq 26, 3) := by decide +kernel
theorem dX12_faultNow_159 : decode cX12_faultNow 159 = .ok (.aload_n 0, 1) := by decide +kernel
theorem dX12_faultNow_160 : decode cX12_faultNow 160 = .ok (.iload_n 1, 1) := by decide +kernel
theorem dX12_faultNow_161 : decode cX12_faultNow 161 = .ok (.invokevirtual 215, 3) := by decide +kernel
theorem dX12_faultNow_164 : decode cX12_faultNow 164 = .ok (.bipush 41, 2) := by decide +kernel
theorem dX12_faultNow_166 : decode cX12_faultNow 166 = .ok (.if_icmp .ne 16, 3) := by decide +kernel
theorem dX12_faultNow_169 : decode cX12_faultNow 169 = .ok (.aload_n 0, 1) := by decide +kernel
theorem dX12_faultNow_170 : decode cX12_faultNow 170 = .ok (.getfield 50, 3) := by decide +kernel
theorem dX12_faultNow_173 : decode cX12_faultNow 173 = .ok (.iload_n 2, 1) := by decide +kernel
theorem dX12_faultNow_174 : decode cX12_faultNow 174 = .ok (.iaload, 1) := by decide +kernel
theorem dX12_faultNow_175 : decode cX12_faultNow 175 = .ok (.istore_n 2, 1) := by decide +kernel
theorem dX12_faultNow_176 : decode cX12_faultNow 176 = .ok (.iinc 1 1, 3) := by decide +kernel
theorem dX12_faultNow_179 : decode cX12_faultNow 179 = .ok (.goto (-25), 3) := by decide +kernel
theorem dX12_faultNow_182 : decode cX12_faultNow 182 = .ok (.iload_n 2, 1) := by decide +kernel
theorem dX12_faultNow_183 : decode cX12_faultNow 183 = .ok (.iconst (-1), 1) := by decide +kernel
theorem dX12_faultNow_184 : decode cX12_faultNow 184 = .ok (.if_icmp .ne 17, 3) := by decide +kernel
theorem dX12_faultNow_187 : decode cX12_faultNow 187 = .ok (.iload_n 1, 1) := by decide +kernel
theorem dX12_faultNow_188 : decode cX12_faultNow 188 = .ok (.aload_n 0, 1) := by decide +kernel
theorem dX12_faultNow_189 : decode cX12_faultNow 189 = .ok (.getfield 209, 3) := by decide +kernel
theorem dX12_faultNow_192 : decode cX12_faultNow 192 = .ok (.if_icmp .ge 7, 3) := by decide +kernel
theorem dX12_faultNow_195 : decode cX12_faultNow 195 = .ok (.iload_n 1, 1) := by decide +kernel
theorem dX12_faultNow_196 : decode cX12_faultNow 196 = .ok (.goto 4, 3) := by decide +kernel
theorem dX12_faultNow_199 : decode cX12_faultNow 199 = .ok (.iconst (-1), 1) := by decide +kernel
theorem dX12_faultNow_200 : decode cX12_faultNow 200 = .ok (.ireturn, 1) := by decide +kernel
theorem dX12_faultNow_201 : decode cX12_faultNow 201 = .ok (.aload_n 0, 1) := by decide +kernel
theorem dX12_faultNow_202 : decode cX12_faultNow 202 = .ok (.iload_n 1, 1) := by decide +kernel
theorem dX12_faultNow_203 : decode cX12_faultNow 203 = .ok (.invokevirtual 215, 3) := by decide +kernel
theorem dX12_faultNow_206 : decode cX12_faultNow 206 = .ok (.bipush 44, 2) := by decide +kernel
theorem dX12_faultNow_208 : decode cX12_faultNow 208 = .ok (.if_icmp .ne 13, 3) := by decide +kernel
theorem dX12_faultNow_211 : decode cX12_faultNow 211 = .ok (.aload_n 0, 1) := by decide +kernel
theorem dX12_faultNow_212 : decode cX12_faultNow 212 = .ok (.getfield 56, 3) := by decide +kernel
theorem dX12_faultNow_215 : decode cX12_faultNow 215 = .ok (.iload_n 2, 1) := by decide +kernel
theorem dX12_faultNow_216 : decode cX12_faultNow 216 = .ok (.iaload, 1) := by decide +kernel
theorem dX12_faultNow_217 : decode cX12_faultNow 217 = .ok (.iconst 4, 1) := by decide +kernel
theorem dX12_faultNow_218 : decode cX12_faultNow 218 = .ok (.if_icmp .ne 5, 3) := by decide +kernel
theorem dX12_faultNow_221 : decode cX12_faultNow 221 = .ok (.iload_n 1, 1) := by decide +kernel
theorem dX12_faultNow_222 : decode cX12_faultNow 222 = .ok (.ireturn, 1) := by decide +kernel
theorem dX12_faultNow_223 : decode cX12_faultNow 223 = .ok (.iinc 1 1, 3) := by decide +kernel
theorem dX12_faultNow_226 : decode cX12_faultNow 226 = .ok (.goto (-217), 3) := by decide +kernel
theorem dX12_fault_0 : decode cX12_fault 0 = .ok (.aload_n 0, 1) := by decide +kernel
theorem dX12_fault_1 : decode cX12_fault 1 = .ok (.invokevirtual 222, 3) := by decide +kernel
theorem dX12_fault_4 : decode cX12_fault 4 = .ok (.ireturn, 1) := by decide +kernel
theorem dX12_worth_0 : decode cX12_worth 0 = .ok (.aload_n 0, 1) := by decide +kernel
theorem dX12_worth_1 : decode cX12_worth 1 = .ok (.getfield 65, 3) := by decide +kernel
theorem dX12_worth_4 : decode cX12_worth 4 = .ok (.iconst 3, 1) := by decide +kernel
theorem dX12_worth_5 : decode cX12_worth 5 = .ok (.iload_n 1, 1) := by decide +kernel
theorem dX12_worth_6 : decode cX12_worth 6 = .ok (.imul, 1) := by decide +kernel
theorem dX12_worth_7 : decode cX12_worth 7 = .ok (.iload_n 2, 1) := by decide +kernel
theorem dX12_worth_8 : decode cX12_worth 8 = .ok (.iadd, 1) := by decide +kernel
theorem dX12_worth_9 : decode cX12_worth 9 = .ok (.iaload, 1) := by decide +kernel
theorem dX12_worth_10 : decode cX12_worth 10 = .ok (.istore 4, 2) := by decide +kernel
theorem dX12_worth_12 : decode cX12_worth 12 = .ok (.iconst 0, 1) := by decide +kernel
theorem dX12_worth_13 : decode cX12_worth 13 = .ok (.istore 5, 2) := by decide +kernel
theorem dX12_worth_15 : decode cX12_worth 15 = .ok (.iconst 0, 1) := by decide +kernel
theorem dX12_worth_16 : decode cX12_worth 16 = .ok (.istore 6, 2) := by decide +kernel
theorem dX12_worth_18 : decode cX12_worth 18 = .ok (.iload 6, 2) := by decide +kernel
theorem dX12_worth_20 : decode cX12_worth 20 = .ok (.iconst 3, 1) := by decide +kernel
theorem dX12_worth_21 : decode cX12_worth 21 = .ok (.if_icmp .ge 49, 3) := by decide +kernel
theorem dX12_worth_24 : decode cX12_worth 24 = .ok (.iload 6, 2) := by decide +kernel
theorem dX12_worth_26 : decode cX12_worth 26 = .ok (.iload_n 2, 1) := by decide +kernel
theorem dX12_worth_27 : decode cX12_worth 27 = .ok (.if_icmp .eq 33, 3) := by decide +kernel
theorem dX12_worth_30 : decode cX12_worth 30 = .ok (.aload_n 0, 1) := by decide +kernel
theorem dX12_worth_31 : decode cX12_worth 31 = .ok (.getfield 65, 3) := by decide +kernel
theorem dX12_worth_34 : decode cX12_worth 34 = .ok (.iconst 3, 1) := by decide +kernel
theorem dX12_worth_35 : decode cX12_worth 35 = .ok (.iload_n 1, 1) := by decide +kernel
theorem dX12_worth_36 : decode cX12_worth 36 = .ok (.imul, 1) := by decide +kernel
theorem dX12_worth_37 : decode cX12_worth 37 = .ok (.iload 6, 2) := by decide +kernel
theorem dX12_worth_39 : decode cX12_worth 39 = .ok (.iadd, 1) := by decide +kernel
theorem dX12_worth_40 : decode cX12_worth 40 = .ok (.iaload, 1) := by decide +kernel
theorem dX12_worth_41 : decode cX12_worth 41 = .ok (.iload 5, 2) := by decide +kernel
theorem dX12_worth_43 : decode cX12_worth 43 = .ok (.if_icmp .le 17, 3) := by decide +kernel
theorem dX12_worth_46 : decode cX12_worth 46 = .ok (.aload_n 0, 1) := by decide +kernel
theorem dX12_worth_47 : decode cX12_worth 47 = .ok (.getfield 65, 3) := by decide +kernel
theorem dX12_worth_50 : decode cX12_worth 50 = .ok (.iconst 3, 1) := by decide +kernel
theorem dX12_worth_51 : decode cX12_worth 51 = .ok (.iload_n 1, 1) := by decide +kernel
theorem dX12_worth_52 : decode cX12_worth 52 = .ok (.imul, 1) := by decide +kernel
theorem dX12_worth_53 : decode cX12_worth 53 = .ok (.iload 6, 2) := by decide +kernel
theorem dX12_worth_55 : decode cX12_worth 55 = .ok (.iadd, 1) := by decide +kernel
theorem dX12_worth_56 : decode cX12_worth 56 = .ok (.iaload, 1) := by decide +kernel
theorem dX12_worth_57 : decode cX12_worth 57 = .ok (.goto 5, 3) := by decide +kernel
theorem dX12_worth_60 : decode cX12_worth 60 = .ok (.iload 5, 2) := by decide +kernel
theorem dX12_worth_62 : decode cX12_worth 62 = .ok (.istore 5, 2) := by decide +kernel
theorem dX12_worth_64 : decode cX12_worth 64 = .ok (.iinc 6 1, 3) := by decide +kernel
theorem dX12_worth_67 : decode cX12_worth 67 = .ok (.goto (-49), 3) := by decide +kernel
theorem dX12_worth_70 : decode cX12_worth 70 = .ok (.iconst 4, 1) := by decide +kernel
theorem dX12_worth_71 : decode cX12_worth 71 = .ok (.iload 4, 2) := by decide +kernel
theorem dX12_worth_73 : decode cX12_worth 73 = .ok (.imul, 1) := by decide +kernel
theorem dX12_worth_74 : decode cX12_worth 74 = .ok (.iload 5, 2) := by decide +kernel
theorem dX12_worth_76 : decode cX12_worth 76 = .ok (.iload 4, 2) := by decide +kernel
theorem dX12_worth_78 : decode cX12_worth 78 = .ok (.if_icmp .le 13, 3) := by decide +kernel
theorem dX12_worth_81 : decode cX12_worth 81 = .ok (.iload_n 3, 1) := by decide +kernel
theorem dX12_worth_82 : decode cX12_worth 82 = .ok (.iload 5, 2) := by decide +kernel
theorem dX12_worth_84 : decode cX12_worth 84 = .ok (.iload 4, 2) := by decide +kernel
theorem dX12_worth_86 : decode cX12_worth 86 = .ok (.isub, 1) := by decide +kernel
theorem dX12_worth_87 : decode cX12_worth 87 = .ok (.imul, 1) := by decide +kernel
theorem dX12_worth_88 : decode cX12_worth 88 = .ok (.goto 4, 3) := by decide +kernel
theorem dX12_worth_91 : decode cX12_worth 91 = .ok (.iconst 0, 1) := by decide +kernel
theorem dX12_worth_92 : decode cX12_worth 92 = .ok (.isub, 1) := by decide +kernel
theorem dX12_worth_93 : decode cX12_worth 93 = .ok (.ireturn, 1) := by decide +kernel
theorem dX12_reckons_0 : decode cX12_reckons 0 = .ok (.aload_n 0, 1) := by decide +kernel
theorem dX12_reckons_1 : decode cX12_reckons 1 = .ok (.getfield 212, 3) := by decide +kernel
theorem dX12_reckons_4 : decode cX12_reckons 4 = .ok (.iconst 1, 1) := by decide +kernel
theorem dX12_reckons_5 : decode cX12_reckons 5 = .ok (.isub, 1) := by decide +kernel
theorem dX12_reckons_6 : decode cX12_reckons 6 = .ok (.istore_n 2, 1) := by decide +kernel
theorem dX12_reckons_7 : decode cX12_reckons 7 = .ok (.iload_n 2, 1) := by decide +kernel
theorem dX12_reckons_8 : decode cX12_reckons 8 = .ok (.ifCond .lt 170, 3) := by decide +kernel
theorem dX12_reckons_11 : decode cX12_reckons 11 = .ok (.aload_n 0, 1) := by decide +kernel
theorem dX12_reckons_12 : decode cX12_reckons 12 = .ok (.getfield 62, 3) := by decide +kernel
theorem dX12_reckons_15 : decode cX12_reckons 15 = .ok (.iload_n 2, 1) := by decide +kernel
theorem dX12_reckons_16 : decode cX12_reckons 16 = .ok (.iconst (-1), 1) := by decide +kernel
theorem dX12_reckons_17 : decode cX12_reckons 17 = .ok (.iastore, 1) := by decide +kernel
theorem dX12_reckons_18 : decode cX12_reckons 18 = .ok (.aload_n 0, 1) := by decide +kernel
theorem dX12_reckons_19 : decode cX12_reckons 19 = .ok (.getfield 59, 3) := by decide +kernel
theorem dX12_reckons_22 : decode cX12_reckons 22 = .ok (.iload_n 2, 1) := by decide +kernel
theorem dX12_reckons_23 : decode cX12_reckons 23 = .ok (.aload_n 0, 1) := by decide +kernel
theorem dX12_reckons_24 : decode cX12_reckons 24 = .ok (.getfield 47, 3) := by decide +kernel
theorem dX12_reckons_27 : decode cX12_reckons 27 = .ok (.iload_n 2, 1) := by decide +kernel
theorem dX12_reckons_28 : decode cX12_reckons 28 = .ok (.iaload, 1) := by decide +kernel
theorem dX12_reckons_29 : decode cX12_reckons 29 = .ok (.iconst 3, 1) := by decide +kernel
theorem dX12_reckons_30 : decode cX12_reckons 30 = .ok (.if_icmp .ne 7, 3) := by decide +kernel
theorem dX12_reckons_33 : decode cX12_reckons 33 = .ok (.iload_n 2, 1) := by decide +kernel
theorem dX12_reckons_34 : decode cX12_reckons 34 = .ok (.goto 4, 3) := by decide +kernel
theorem dX12_reckons_37 : decode cX12_reckons 37 = .ok (.iconst (-1), 1) := by decide +kernel
theorem dX12_reckons_38 : decode cX12_reckons 38 = .ok (.iastore, 1) := by decide +kernel
theorem dX12_reckons_39 : decode cX12_reckons 39 = .ok (.iload_n 2, 1) := by decide +kernel
theorem dX12_reckons_40 : decode cX12_reckons 40 = .ok (.iconst 1, 1) := by decide +kernel
theorem dX12_reckons_41 : decode cX12_reckons 41 = .ok (.iadd, 1) := by decide +kernel
theorem dX12_reckons_42 : decode cX12_reckons 42 = .ok (.istore_n 3, 1) := by decide +kernel
theorem dX12_reckons_43 : decode cX12_reckons 43 = .ok (.iload_n 3, 1) := by decide +kernel
theorem dX12_reckons_44 : decode cX12_reckons 44 = .ok (.aload_n 0, 1) := by decide +kernel
theorem dX12_reckons_45 : decode cX12_reckons 45 = .ok (.getfield 212, 3) := by decide +kernel
theorem dX12_reckons_48 : decode cX12_reckons 48 = .ok (.if_icmp .ge 88, 3) := by decide +kernel
theorem dX12_reckons_51 : decode cX12_reckons 51 = .ok (.aload_n 0, 1) := by decide +kernel
theorem dX12_reckons_52 : decode cX12_reckons 52 = .ok (.getfield 47, 3) := by decide +kernel
theorem dX12_reckons_55 : decode cX12_reckons 55 = .ok (.iload_n 2, 1) := by decide +kernel
theorem dX12_reckons_56 : decode cX12_reckons 56 = .ok (.iaload, 1) := by decide +kernel
theorem dX12_reckons_57 : decode cX12_reckons 57 = .ok (.iconst 3, 1) := by decide +kernel
theorem dX12_reckons_58 : decode cX12_reckons 58 = .ok (.if_icmp .ge 78, 3) := by decide +kernel
theorem dX12_reckons_61 : decode cX12_reckons 61 = .ok (.aload_n 0, 1) := by decide +kernel
theorem dX12_reckons_62 : decode cX12_reckons 62 = .ok (.getfield 50, 3) := by decide +kernel
theorem dX12_reckons_65 : decode cX12_reckons 65 = .ok (.iload_n 3, 1) := by decide +kernel
theorem dX12_reckons_66 : decode cX12_reckons 66 = .ok (.iaload, 1) := by decide +kernel
theorem dX12_reckons_67 : decode cX12_reckons 67 = .ok (.iload_n 2, 1) := by decide +kernel
theorem dX12_reckons_68 : decode cX12_reckons 68 = .ok (.if_icmp .ne 62, 3) := by decide +kernel
theorem dX12_reckons_71 : decode cX12_reckons 71 = .ok (.aload_n 0, 1) := by decide +kernel
theorem dX12_reckons_72 : decode cX12_reckons 72 = .ok (.getfield 62, 3) := by decide +kernel
theorem dX12_reckons_75 : decode cX12_reckons 75 = .ok (.iload_n 2, 1) := by decide +kernel
theorem dX12_reckons_76 : decode cX12_reckons 76 = .ok (.iaload, 1) := by decide +kernel
theorem dX12_reckons_77 : decode cX12_reckons 77 = .ok (.iconst (-1), 1) := by decide +kernel
theorem dX12_reckons_78 : decode cX12_reckons 78 = .ok (.if_icmp .eq 45, 3) := by decide +kernel
theorem dX12_reckons_81 : decode cX12_reckons 81 = .ok (.aload_n 0, 1) := by decide +kernel
theorem dX12_reckons_82 : decode cX12_reckons 82 = .ok (.aload_n 0, 1) := by decide +kernel
theorem dX12_reckons_83 : decode cX12_reckons 83 = .ok (.getfield 59, 3) := by decide +kernel
theorem dX12_reckons_86 : decode cX12_reckons 86 = .ok (.iload_n 3, 1) := by decide +kernel
theorem dX12_reckons_87 : decode cX12_reckons 87 = .ok (.iaload, 1) := by decide +kernel
theorem dX12_reckons_88 : decode cX12_reckons 88 = .ok (.aload_n 0, 1) := by decide +kernel
theorem dX12_reckons_89 : decode cX12_reckons 89 = .ok (.getfield 47, 3) := by decide +kernel
theorem dX12_reckons_92 : decode cX12_reckons 92 = .ok (.iload_n 2, 1) := by decide +kernel
theorem dX12_reckons_93 : decode cX12_reckons 93 = .ok (.iaload, 1) := by decide +kernel
theorem dX12_reckons_94 : decode cX12_reckons 94 = .ok (.iload_n 1, 1) := by decide +kernel
theorem dX12_reckons_95 : decode cX12_reckons 95 = .ok (.invokevirtual 226, 3) := by decide +kernel
theorem dX12_reckons_98 : decode cX12_reckons 98 = .ok (.aload_n 0, 1) := by decide +kernel
theorem dX12_reckons_99 : decode cX12_reckons 99 = .ok (.aload_n 0, 1) := by decide +kernel
theorem dX12_reckons_100 : decode cX12_reckons 100 = .ok (.getfield 59, 3) := by decide +kernel
theorem dX12_reckons_103 : decode cX12_reckons 103 = .ok (.aload_n 0, 1) := by decide +kernel
theorem dX12_reckons_104 : decode cX12_reckons 104 = .ok (.getfield 62, 3) := by decide +kernel
theorem dX12_reckons_107 : decode cX12_reckons 107 = .ok (.iload_n 2, 1) := by decide +kernel
theorem dX12_reckons_108 : decode cX12_reckons 108 = .ok (.iaload, 1) := by decide +kernel
theorem dX12_reckons_109 : decode cX12_reckons 109 = .ok (.iaload, 1) := by decide +kernel
theorem dX12_reckons_110 : decode cX12_reckons 110 = .ok (.aload_n 0, 1) := by decide +kernel
theorem dX12_reckons_111 : decode cX12_reckons 111 = .ok (.getfield 47, 3) := by decide +kernel
theorem dX12_reckons_114 : decode cX12_reckons 114 = .ok (.iload_n 2, 1) := by decide +kernel
theorem dX12_reckons_115 : decode cX12_reckons 115 = .ok (.iaload, 1) := by decide +kernel
theorem dX12_reckons_116 : decode cX12_reckons 116 = .ok (.iload_n 1, 1) := by decide +kernel
theorem dX12_reckons_117 : decode cX12_reckons 117 = .ok (.invokevirtual 226, 3) := by decide +kernel
theorem dX12_reckons_120 : decode cX12_reckons 120 = .ok (.if_icmp .le 10, 3) := by decide +kernel
theorem dX12_reckons_123 : decode cX12_reckons 123 = .ok (.aload_n 0, 1) := by decide +kernel
theorem dX12_reckons_124 : decode cX12_reckons 124 = .ok (.getfield 62, 3) := by decide +kernel
theorem dX12_reckons_127 : decode cX12_reckons 127 = .ok (.iload_n 2, 1) := by decide +kernel
theorem dX12_reckons_128 : decode cX12_reckons 128 = .ok (.iload_n 3, 1) := by decide +kernel
theorem dX12_reckons_129 : decode cX12_reckons 129 = .ok (.iastore, 1) := by decide +kernel
theorem dX12_reckons_130 : decode cX12_reckons 130 = .ok (.iinc 3 1, 3) := by decide +kernel
theorem dX12_reckons_133 : decode cX12_reckons 133 = .ok (.goto (-90), 3) := by decide +kernel
theorem dX12_reckons_136 : decode cX12_reckons 136 = .ok (.aload_n 0, 1) := by decide +kernel
theorem dX12_reckons_137 : decode cX12_reckons 137 = .ok (.getfield 59, 3) := by decide +kernel
theorem dX12_reckons_140 : decode cX12_reckons 140 = .ok (.iload_n 2, 1) := by decide +kernel
theorem dX12_reckons_141 : decode cX12_reckons 141 = .ok (.aload_n 0, 1) := by decide +kernel
theorem dX12_reckons_142 : decode cX12_reckons 142 = .ok (.getfield 62, 3) := by decide +kernel
theorem dX12_reckons_145 : decode cX12_reckons 145 = .ok (.iload_n 2, 1) := by decide +kernel
theorem dX12_reckons_146 : decode cX12_reckons 146 = .ok (.iaload, 1) := by decide +kernel
theorem dX12_reckons_147 : decode cX12_reckons 147 = .ok (.iconst (-1), 1) := by decide +kernel
theorem dX12_reckons_148 : decode cX12_reckons 148 = .ok (.if_icmp .ne 12, 3) := by decide +kernel
theorem dX12_reckons_151 : decode cX12_reckons 151 = .ok (.aload_n 0, 1) := by decide +kernel
theorem dX12_reckons_152 : decode cX12_reckons 152 = .ok (.getfield 59, 3) := by decide +kernel
theorem dX12_reckons_155 : decode cX12_reckons 155 = .ok (.iload_n 2, 1) := by decide +kernel
theorem dX12_reckons_156 : decode cX12_reckons 156 = .ok (.iaload, 1) := by decide +kernel
theorem dX12_reckons_157 : decode cX12_reckons 157 = .ok (.goto 14, 3) := by decide +kernel
theorem dX12_reckons_160 : decode cX12_reckons 160 = .ok (.aload_n 0, 1) := by decide +kernel
theorem dX12_reckons_161 : decode cX12_reckons 161 = .ok (.getfield 59, 3) := by decide +kernel
theorem dX12_reckons_164 : decode cX12_reckons 164 = .ok (.aload_n 0, 1) := by decide +kernel
theorem dX12_reckons_165 : decode cX12_reckons 165 = .ok (.getfield 62, 3) := by decide +kernel
theorem dX12_reckons_168 : decode cX12_reckons 168 = .ok (.iload_n 2, 1) := by decide +kernel
theorem dX12_reckons_169 : decode cX12_reckons 169 = .ok (.iaload, 1) := by decide +kernel
theorem dX12_reckons_170 : decode cX12_reckons 170 = .ok (.iaload, 1) := by decide +kernel
theorem dX12_reckons_171 : decode cX12_reckons 171 = .ok (.iastore, 1) := by decide +kernel
theorem dX12_reckons_172 : decode cX12_reckons 172 = .ok (.iinc 2 (-1), 3) := by decide +kernel
theorem dX12_reckons_175 : decode cX12_reckons 175 = .ok (.goto (-168), 3) := by decide +kernel
theorem dX12_reckons_178 : decode cX12_reckons 178 = .ok (.return_, 1) := by decide +kernel
theorem dX12_lettersOf_0 : decode cX12_lettersOf 0 = .ok (.iconst 0, 1) := by decide +kernel
theorem dX12_lettersOf_1 : decode cX12_lettersOf 1 = .ok (.istore_n 2, 1) := by decide +kernel
theorem dX12_lettersOf_2 : decode cX12_lettersOf 2 = .ok (.iconst 0, 1) := by decide +kernel
theorem dX12_lettersOf_3 : decode cX12_lettersOf 3 = .ok (.istore_n 3, 1) := by decide +kernel
theorem dX12_lettersOf_4 : decode cX12_lettersOf 4 = .ok (.iload_n 3, 1) := by decide +kernel
theorem dX12_lettersOf_5 : decode cX12_lettersOf 5 = .ok (.aload_n 0, 1) := by decide +kernel
theorem dX12_lettersOf_6 : decode cX12_lettersOf 6 = .ok (.getfield 212, 3) := by decide +kernel
theorem dX12_lettersOf_9 : decode cX12_lettersOf 9 = .ok (.if_icmp .ge 36, 3) := by decide +kernel
theorem dX12_lettersOf_12 : decode cX12_lettersOf 12 = .ok (.iload_n 2, 1) := by decide +kernel
theorem dX12_lettersOf_13 : decode cX12_lettersOf 13 = .ok (.aload_n 0, 1) := by decide +kernel
theorem dX12_lettersOf_14 : decode cX12_lettersOf 14 = .ok (.getfield 47, 3) := by decide +kernel
theorem dX12_lettersOf_17 : decode cX12_lettersOf 17 = .ok (.iload_n 3, 1) := by decide +kernel
theorem dX12_lettersOf_18 : decode cX12_lettersOf 18 = .ok (.iaload, 1) := by decide +kernel
theorem dX12_lettersOf_19 : decode cX12_lettersOf 19 = .ok (.iconst 3, 1) := by decide +kernel
theorem dX12_lettersOf_20 : decode cX12_lettersOf 20 = .ok (.if_icmp .ne 7, 3) := by decide +kernel
theorem dX12_lettersOf_23 : decode cX12_lettersOf 23 = .ok (.iconst 1, 1) := by decide +kernel
theorem dX12_lettersOf_24 : decode cX12_lettersOf 24 = .ok (.goto 4, 3) := by decide +kernel
theorem dX12_lettersOf_27 : decode cX12_lettersOf 27 = .ok (.iconst 0, 1) := by decide +kernel
theorem dX12_lettersOf_28 : decode cX12_lettersOf 28 = .ok (.iload_n 1, 1) := by decide +kernel
theorem dX12_lettersOf_29 : decode cX12_lettersOf 29 = .ok (.if_icmp .ne 7, 3) := by decide +kernel
theorem dX12_lettersOf_32 : decode cX12_lettersOf 32 = .ok (.iconst 1, 1) := by decide +kernel
theorem dX12_lettersOf_33 : decode cX12_lettersOf 33 = .ok (.goto 4, 3) := by decide +kernel
theorem dX12_lettersOf_36 : decode cX12_lettersOf 36 = .ok (.iconst 0, 1) := by decide +kernel
theorem dX12_lettersOf_37 : decode cX12_lettersOf 37 = .ok (.iadd, 1) := by decide +kernel
theorem dX12_lettersOf_38 : decode cX12_lettersOf 38 = .ok (.istore_n 2, 1) := by decide +kernel
theorem dX12_lettersOf_39 : decode cX12_lettersOf 39 = .ok (.iinc 3 1, 3) := by decide +kernel
theorem dX12_lettersOf_42 : decode cX12_lettersOf 42 = .ok (.goto (-38), 3) := by decide +kernel
theorem dX12_lettersOf_45 : decode cX12_lettersOf 45 = .ok (.iload_n 2, 1) := by decide +kernel
theorem dX12_lettersOf_46 : decode cX12_lettersOf 46 = .ok (.ireturn, 1) := by decide +kernel
theorem dX12_wayOf_0 : decode cX12_wayOf 0 = .ok (.iconst 0, 1) := by decide +kernel
theorem dX12_wayOf_1 : decode cX12_wayOf 1 = .ok (.istore_n 1, 1) := by decide +kernel
theorem dX12_wayOf_2 : decode cX12_wayOf 2 = .ok (.iconst 0, 1) := by decide +kernel
theorem dX12_wayOf_3 : decode cX12_wayOf 3 = .ok (.istore_n 2, 1) := by decide +kernel
theorem dX12_wayOf_4 : decode cX12_wayOf 4 = .ok (.aload_n 0, 1) := by decide +kernel
theorem dX12_wayOf_5 : decode cX12_wayOf 5 = .ok (.getfield 62, 3) := by decide +kernel
theorem dX12_wayOf_8 : decode cX12_wayOf 8 = .ok (.iload_n 2, 1) := by decide +kernel
theorem dX12_wayOf_9 : decode cX12_wayOf 9 = .ok (.iaload, 1) := by decide +kernel
theorem dX12_wayOf_10 : decode cX12_wayOf 10 = .ok (.iconst (-1), 1) := by decide +kernel
theorem dX12_wayOf_11 : decode cX12_wayOf 11 = .ok (.if_icmp .eq 16, 3) := by decide +kernel
theorem dX12_wayOf_14 : decode cX12_wayOf 14 = .ok (.aload_n 0, 1) := by decide +kernel
theorem dX12_wayOf_15 : decode cX12_wayOf 15 = .ok (.getfield 62, 3) := by decide +kernel
theorem dX12_wayOf_18 : decode cX12_wayOf 18 = .ok (.iload_n 2, 1) := by decide +kernel
theorem dX12_wayOf_19 : decode cX12_wayOf 19 = .ok (.iaload, 1) := by decide +kernel
theorem dX12_wayOf_20 : decode cX12_wayOf 20 = .ok (.istore_n 2, 1) := by decide +kernel
theorem dX12_wayOf_21 : decode cX12_wayOf 21 = .ok (.iinc 1 1, 3) := by decide +kernel
theorem dX12_wayOf_24 : decode cX12_wayOf 24 = .ok (.goto (-20), 3) := by decide +kernel
theorem dX12_wayOf_27 : decode cX12_wayOf 27 = .ok (.iload_n 1, 1) := by decide +kernel
theorem dX12_wayOf_28 : decode cX12_wayOf 28 = .ok (.ireturn, 1) := by decide +kernel
theorem dX12_reckonNow_0 : decode cX12_reckonNow 0 = .ok (.aload_n 0, 1) := by decide +kernel
theorem dX12_reckonNow_1 : decode cX12_reckonNow 1 = .ok (.invokevirtual 222, 3) := by decide +kernel
theorem dX12_reckonNow_4 : decode cX12_reckonNow 4 = .ok (.iconst (-1), 1) := by decide +kernel
theorem dX12_reckonNow_5 : decode cX12_reckonNow 5 = .ok (.if_icmp .eq 6, 3) := by decide +kernel
theorem dX12_reckonNow_8 : decode cX12_reckonNow 8 = .ok (.bipush (-3), 2) := by decide +kernel
theorem dX12_reckonNow_10 : decode cX12_reckonNow 10 = .ok (.ireturn, 1) := by decide +kernel
theorem dX12_reckonNow_11 : decode cX12_reckonNow 11 = .ok (.aload_n 0, 1) := by decide +kernel
theorem dX12_reckonNow_12 : decode cX12_reckonNow 12 = .ok (.iload_n 1, 1) := by decide +kernel
theorem dX12_reckonNow_13 : decode cX12_reckonNow 13 = .ok (.invokevirtual 229, 3) := by decide +kernel
theorem dX12_reckonNow_16 : decode cX12_reckonNow 16 = .ok (.iload_n 2, 1) := by decide +kernel
theorem dX12_reckonNow_17 : decode cX12_reckonNow 17 = .ok (.iconst 3, 1) := by decide +kernel
theorem dX12_reckonNow_18 : decode cX12_reckonNow 18 = .ok (.if_icmp .ge 21, 3) := by decide +kernel
theorem dX12_reckonNow_21 : decode cX12_reckonNow 21 = .ok (.aload_n 0, 1) := by decide +kernel
theorem dX12_reckonNow_22 : decode cX12_reckonNow 22 = .ok (.getfield 65, 3) := by decide +kernel
theorem dX12_reckonNow_25 : decode cX12_reckonNow 25 = .ok (.iconst 3, 1) := by decide +kernel
theorem dX12_reckonNow_26 : decode cX12_reckonNow 26 = .ok (.aload_n 0, 1) := by decide +kernel
theorem dX12_reckonNow_27 : decode cX12_reckonNow 27 = .ok (.getfield 59, 3) := by decide +kernel
theorem dX12_reckonNow_30 : decode cX12_reckonNow 30 = .ok (.iconst 0, 1) := by decide +kernel
theorem dX12_reckonNow_31 : decode cX12_reckonNow 31 = .ok (.iaload, 1) := by decide +kernel
theorem dX12_reckonNow_32 : decode cX12_reckonNow 32 = .ok (.imul, 1) := by decide +kernel
theorem dX12_reckonNow_33 : decode cX12_reckonNow 33 = .ok (.iload_n 2, 1) := by decide +kernel
theorem dX12_reckonNow_34 : decode cX12_reckonNow 34 = .ok (.iadd, 1) := by decide +kernel
theorem dX12_reckonNow_35 : decode cX12_reckonNow 35 = .ok (.iaload, 1) := by decide +kernel
theorem dX12_reckonNow_36 : decode cX12_reckonNow 36 = .ok (.goto 29, 3) := by decide +kernel
theorem dX12_reckonNow_39 : decode cX12_reckonNow 39 = .ok (.iload_n 2, 1) := by decide +kernel
theorem dX12_reckonNow_40 : decode cX12_reckonNow 40 = .ok (.iconst 3, 1) := by decide +kernel
theorem dX12_reckonNow_41 : decode cX12_reckonNow 41 = .ok (.if_icmp .ne 10, 3) := by decide +kernel
theorem dX12_reckonNow_44 : decode cX12_reckonNow 44 = .ok (.aload_n 0, 1) := by decide +kernel
theorem dX12_reckonNow_45 : decode cX12_reckonNow 45 = .ok (.invokevirtual 233, 3) := by decide +kernel
theorem dX12_reckonNow_48 : decode cX12_reckonNow 48 = .ok (.goto 17, 3) := by decide +kernel
theorem dX12_reckonNow_51 : decode cX12_reckonNow 51 = .ok (.aload_n 0, 1) := by decide +kernel
theorem dX12_reckonNow_52 : decode cX12_reckonNow 52 = .ok (.iload_n 2, 1) := by decide +kernel
theorem dX12_reckonNow_53 : decode cX12_reckonNow 53 = .ok (.iconst 4, 1) := by decide +kernel
theorem dX12_reckonNow_54 : decode cX12_reckonNow 54 = .ok (.if_icmp .ne 7, 3) := by decide +kernel
theorem dX12_reckonNow_57 : decode cX12_reckonNow 57 = .ok (.iconst 1, 1) := by decide +kernel
theorem dX12_reckonNow_58 : decode cX12_reckonNow 58 = .ok (.goto 4, 3) := by decide +kernel
theorem dX12_reckonNow_61 : decode cX12_reckonNow 61 = .ok (.iconst 0, 1) := by decide +kernel
theorem dX12_reckonNow_62 : decode cX12_reckonNow 62 = .ok (.invokevirtual 236, 3) := by decide +kernel
theorem dX12_reckonNow_65 : decode cX12_reckonNow 65 = .ok (.ireturn, 1) := by decide +kernel
theorem dX12_reckon_0 : decode cX12_reckon 0 = .ok (.iload_n 1, 1) := by decide +kernel
theorem dX12_reckon_1 : decode cX12_reckon 1 = .ok (.iconst 0, 1) := by decide +kernel
theorem dX12_reckon_2 : decode cX12_reckon 2 = .ok (.bipush 40, 2) := by decide +kernel
theorem dX12_reckon_4 : decode cX12_reckon 4 = .ok (.invokestatic 107, 3) := by decide +kernel
theorem dX12_reckon_7 : decode cX12_reckon 7 = .ok (.ifCond .eq 21, 3) := by decide +kernel
theorem dX12_reckon_10 : decode cX12_reckon 10 = .ok (.iload_n 2, 1) := by decide +kernel
theorem dX12_reckon_11 : decode cX12_reckon 11 = .ok (.iconst 0, 1) := by decide +kernel
theorem dX12_reckon_12 : decode cX12_reckon 12 = .ok (.iconst 5, 1) := by decide +kernel
theorem dX12_reckon_13 : decode cX12_reckon 13 = .ok (.invokestatic 107, 3) := by decide +kernel
theorem dX12_reckon_16 : decode cX12_reckon 16 = .ok (.ifCond .eq 12, 3) := by decide +kernel
theorem dX12_reckon_19 : decode cX12_reckon 19 = .ok (.aload_n 0, 1) := by decide +kernel
theorem dX12_reckon_20 : decode cX12_reckon 20 = .ok (.iload_n 1, 1) := by decide +kernel
theorem dX12_reckon_21 : decode cX12_reckon 21 = .ok (.iload_n 2, 1) := by decide +kernel
theorem dX12_reckon_22 : decode cX12_reckon 22 = .ok (.invokevirtual 240, 3) := by decide +kernel
theorem dX12_reckon_25 : decode cX12_reckon 25 = .ok (.goto 5, 3) := by decide +kernel
theorem dX12_reckon_28 : decode cX12_reckon 28 = .ok (.bipush (-2), 2) := by decide +kernel
theorem dX12_reckon_30 : decode cX12_reckon 30 = .ok (.ireturn, 1) := by decide +kernel
theorem dX12_how_0 : decode cX12_how 0 = .ok (.iload_n 1, 1) := by decide +kernel
theorem dX12_how_1 : decode cX12_how 1 = .ok (.iconst 0, 1) := by decide +kernel
theorem dX12_how_2 : decode cX12_how 2 = .ok (.bipush 40, 2) := by decide +kernel
theorem dX12_how_4 : decode cX12_how 4 = .ok (.invokestatic 107, 3) := by decide +kernel
theorem dX12_how_7 : decode cX12_how 7 = .ok (.ifCond .eq 7, 3) := by decide +kernel
theorem dX12_how_10 : decode cX12_how 10 = .ok (.iload_n 2, 1) := by decide +kernel
theorem dX12_how_11 : decode cX12_how 11 = .ok (.ifCond .ge 6, 3) := by decide +kernel
theorem dX12_how_14 : decode cX12_how 14 = .ok (.bipush (-2), 2) := by decide +kernel
theorem dX12_how_16 : decode cX12_how 16 = .ok (.ireturn, 1) := by decide +kernel
theorem dX12_how_17 : decode cX12_how 17 = .ok (.aload_n 0, 1) := by decide +kernel
theorem dX12_how_18 : decode cX12_how 18 = .ok (.invokevirtual 222, 3) := by decide +kernel
theorem dX12_how_21 : decode cX12_how 21 = .ok (.iconst (-1), 1) := by decide +kernel
theorem dX12_how_22 : decode cX12_how 22 = .ok (.if_icmp .eq 6, 3) := by decide +kernel
theorem dX12_how_25 : decode cX12_how 25 = .ok (.bipush (-3), 2) := by decide +kernel
theorem dX12_how_27 : decode cX12_how 27 = .ok (.ireturn, 1) := by decide +kernel
theorem dX12_how_28 : decode cX12_how 28 = .ok (.aload_n 0, 1) := by decide +kernel
theorem dX12_how_29 : decode cX12_how 29 = .ok (.iload_n 1, 1) := by decide +kernel
theorem dX12_how_30 : decode cX12_how 30 = .ok (.invokevirtual 229, 3) := by decide +kernel
theorem dX12_how_33 : decode cX12_how 33 = .ok (.iload_n 2, 1) := by decide +kernel
theorem dX12_how_34 : decode cX12_how 34 = .ok (.aload_n 0, 1) := by decide +kernel
theorem dX12_how_35 : decode cX12_how 35 = .ok (.invokevirtual 233, 3) := by decide +kernel
theorem dX12_how_38 : decode cX12_how 38 = .ok (.if_icmp .lt 5, 3) := by decide +kernel
theorem dX12_how_41 : decode cX12_how 41 = .ok (.iconst (-1), 1) := by decide +kernel
theorem dX12_how_42 : decode cX12_how 42 = .ok (.ireturn, 1) := by decide +kernel
theorem dX12_how_43 : decode cX12_how 43 = .ok (.iconst 0, 1) := by decide +kernel
theorem dX12_how_44 : decode cX12_how 44 = .ok (.istore_n 3, 1) := by decide +kernel
theorem dX12_how_45 : decode cX12_how 45 = .ok (.iconst 0, 1) := by decide +kernel
theorem dX12_how_46 : decode cX12_how 46 = .ok (.istore 4, 2) := by decide +kernel
theorem dX12_how_48 : decode cX12_how 48 = .ok (.iload 4, 2) := by decide +kernel
theorem dX12_how_50 : decode cX12_how 50 = .ok (.iload_n 2, 1) := by decide +kernel
theorem dX12_how_51 : decode cX12_how 51 = .ok (.if_icmp .ge 16, 3) := by decide +kernel
theorem dX12_how_54 : decode cX12_how 54 = .ok (.aload_n 0, 1) := by decide +kernel
theorem dX12_how_55 : decode cX12_how 55 = .ok (.getfield 62, 3) := by decide +kernel
theorem dX12_how_58 : decode cX12_how 58 = .ok (.iload_n 3, 1) := by decide +kernel
theorem dX12_how_59 : decode cX12_how 59 = .ok (.iaload, 1) := by decide +kernel
theorem dX12_how_60 : decode cX12_how 60 = .ok (.istore_n 3, 1) := by decide +kernel
theorem dX12_how_61 : decode cX12_how 61 = .ok (.iinc 4 1, 3) := by decide +kernel
theorem dX12_how_64 : decode cX12_how 64 = .ok (.goto (-16), 3) := by decide +kernel
theorem dX12_how_67 : decode cX12_how 67 = .ok (.aload_n 0, 1) := by decide +kernel
theorem dX12_how_68 : decode cX12_how 68 = .ok (.getfield 53, 3) := by decide +kernel
theorem dX12_how_71 : decode cX12_how 71 = .ok (.aload_n 0, 1) := by decide +kernel
theorem dX12_how_72 : decode cX12_how 72 = .ok (.getfield 62, 3) := by decide +kernel
theorem dX12_how_75 : decode cX12_how 75 = .ok (.iload_n 3, 1) := by decide +kernel
theorem dX12_how_76 : decode cX12_how 76 = .ok (.iaload, 1) := by decide +kernel
theorem dX12_how_77 : decode cX12_how 77 = .ok (.iaload, 1) := by decide +kernel
theorem dX12_how_78 : decode cX12_how 78 = .ok (.ireturn, 1) := by decide +kernel
theorem dX12_temperNow_0 : decode cX12_temperNow 0 = .ok (.aload_n 0, 1) := by decide +kernel
theorem dX12_temperNow_1 : decode cX12_temperNow 1 = .ok (.invokevirtual 222, 3) := by decide +kernel
theorem dX12_temperNow_4 : decode cX12_temperNow 4 = .ok (.iconst (-1), 1) := by decide +kernel
theorem dX12_temperNow_5 : decode cX12_temperNow 5 = .ok (.if_icmp .eq 6, 3) := by decide +kernel
theorem dX12_temperNow_8 : decode cX12_temperNow 8 = .ok (.bipush (-3), 2) := by decide +kernel
theorem dX12_temperNow_10 : decode cX12_temperNow 10 = .ok (.ireturn, 1) := by decide +kernel
theorem dX12_temperNow_11 : decode cX12_temperNow 11 = .ok (.aload_n 0, 1) := by decide +kernel
theorem dX12_temperNow_12 : decode cX12_temperNow 12 = .ok (.iconst 0, 1) := by decide +kernel
theorem dX12_temperNow_13 : decode cX12_temperNow 13 = .ok (.invokevirtual 229, 3) := by decide +kernel
theorem dX12_temperNow_16 : decode cX12_temperNow 16 = .ok (.aload_n 0, 1) := by decide +kernel
theorem dX12_temperNow_17 : decode cX12_temperNow 17 = .ok (.getfield 59, 3) := by decide +kernel
theorem dX12_temperNow_20 : decode cX12_temperNow 20 = .ok (.iconst 0, 1) := by decide +kernel
theorem dX12_temperNow_21 : decode cX12_temperNow 21 = .ok (.iaload, 1) := by decide +kernel
theorem dX12_temperNow_22 : decode cX12_temperNow 22 = .ok (.istore_n 1, 1) := by decide +kernel
theorem dX12_temperNow_23 : decode cX12_temperNow 23 = .ok (.iconst 1, 1) := by decide +kernel
theorem dX12_temperNow_24 : decode cX12_temperNow 24 = .ok (.istore_n 2, 1) := by decide +kernel
theorem dX12_temperNow_25 : decode cX12_temperNow 25 = .ok (.iload_n 2, 1) := by decide +kernel
theorem dX12_temperNow_26 : decode cX12_temperNow 26 = .ok (.bipush 41, 2) := by decide +kernel
theorem dX12_temperNow_28 : decode cX12_temperNow 28 = .ok (.if_icmp .ge 26, 3) := by decide +kernel
theorem dX12_temperNow_31 : decode cX12_temperNow 31 = .ok (.aload_n 0, 1) := by decide +kernel
theorem dX12_temperNow_32 : decode cX12_temperNow 32 = .ok (.iload_n 2, 1) := by decide +kernel
theorem dX12_temperNow_33 : decode cX12_temperNow 33 = .ok (.invokevirtual 229, 3) := by decide +kernel
theorem dX12_temperNow_36 : decode cX12_temperNow 36 = .ok (.aload_n 0, 1) := by decide +kernel
theorem dX12_temperNow_37 : decode cX12_temperNow 37 = .ok (.getfield 59, 3) := by decide +kernel
theorem dX12_temperNow_40 : decode cX12_temperNow 40 = .ok (.iconst 0, 1) := by decide +kernel
theorem dX12_temperNow_41 : decode cX12_temperNow 41 = .ok (.iaload, 1) := by decide +kernel
theorem dX12_temperNow_42 : decode cX12_temperNow 42 = .ok (.iload_n 1, 1) := by decide +kernel
theorem dX12_temperNow_43 : decode cX12_temperNow 43 = .ok (.if_icmp .eq 5, 3) := by decide +kernel
theorem dX12_temperNow_46 : decode cX12_temperNow 46 = .ok (.iload_n 2, 1) := by decide +kernel
theorem dX12_temperNow_47 : decode cX12_temperNow 47 = .ok (.ireturn, 1) := by decide +kernel
theorem dX12_temperNow_48 : decode cX12_temperNow 48 = .ok (.iinc 2 1, 3) := by decide +kernel
theorem dX12_temperNow_51 : decode cX12_temperNow 51 = .ok (.goto (-26), 3) := by decide +kernel
theorem dX12_temperNow_54 : decode cX12_temperNow 54 = .ok (.iconst (-1), 1) := by decide +kernel
theorem dX12_temperNow_55 : decode cX12_temperNow 55 = .ok (.ireturn, 1) := by decide +kernel
theorem dX12_temper_0 : decode cX12_temper 0 = .ok (.aload_n 0, 1) := by decide +kernel
theorem dX12_temper_1 : decode cX12_temper 1 = .ok (.invokevirtual 243, 3) := by decide +kernel
theorem dX12_temper_4 : decode cX12_temper 4 = .ok (.ireturn, 1) := by decide +kernel
theorem dX12_two_0 : decode cX12_two 0 = .ok (.iload_n 1, 1) := by decide +kernel
theorem dX12_two_1 : decode cX12_two 1 = .ok (.invokestatic 111, 3) := by decide +kernel
theorem dX12_two_4 : decode cX12_two 4 = .ok (.ifCond .eq 15, 3) := by decide +kernel
theorem dX12_two_7 : decode cX12_two 7 = .ok (.iload_n 2, 1) := by decide +kernel
theorem dX12_two_8 : decode cX12_two 8 = .ok (.invokestatic 111, 3) := by decide +kernel
theorem dX12_two_11 : decode cX12_two 11 = .ok (.ifCond .eq 8, 3) := by decide +kernel
theorem dX12_two_14 : decode cX12_two 14 = .ok (.iload_n 1, 1) := by decide +kernel
theorem dX12_two_15 : decode cX12_two 15 = .ok (.iload_n 2, 1) := by decide +kernel
theorem dX12_two_16 : decode cX12_two 16 = .ok (.if_icmp .ne 6, 3) := by decide +kernel
theorem dX12_two_19 : decode cX12_two 19 = .ok (.bipush (-2), 2) := by decide +kernel
theorem dX12_two_21 : decode cX12_two 21 = .ok (.ireturn, 1) := by decide +kernel
theorem dX12_two_22 : decode cX12_two 22 = .ok (.aload_n 0, 1) := by decide +kernel
theorem dX12_two_23 : decode cX12_two 23 = .ok (.iload_n 1, 1) := by decide +kernel
theorem dX12_two_24 : decode cX12_two 24 = .ok (.iconst 0, 1) := by decide +kernel
theorem dX12_two_25 : decode cX12_two 25 = .ok (.invokevirtual 144, 3) := by decide +kernel
theorem dX12_two_28 : decode cX12_two 28 = .ok (.istore_n 3, 1) := by decide +kernel
theorem dX12_two_29 : decode cX12_two 29 = .ok (.aload_n 0, 1) := by decide +kernel
theorem dX12_two_30 : decode cX12_two 30 = .ok (.iload_n 2, 1) := by decide +kernel
theorem dX12_two_31 : decode cX12_two 31 = .ok (.iconst 0, 1) := by decide +kernel
theorem dX12_two_32 : decode cX12_two 32 = .ok (.invokevirtual 144, 3) := by decide +kernel
theorem dX12_two_35 : decode cX12_two 35 = .ok (.istore 4, 2) := by decide +kernel
theorem dX12_two_37 : decode cX12_two 37 = .ok (.iload_n 3, 1) := by decide +kernel
theorem dX12_two_38 : decode cX12_two 38 = .ok (.ifCond .eq 8, 3) := by decide +kernel
theorem dX12_two_41 : decode cX12_two 41 = .ok (.iload 4, 2) := by decide +kernel
theorem dX12_two_43 : decode cX12_two 43 = .ok (.ifCond .ne 6, 3) := by decide +kernel
theorem dX12_two_46 : decode cX12_two 46 = .ok (.bipush (-3), 2) := by decide +kernel
theorem dX12_two_48 : decode cX12_two 48 = .ok (.ireturn, 1) := by decide +kernel
theorem dX12_two_49 : decode cX12_two 49 = .ok (.iload_n 3, 1) := by decide +kernel
theorem dX12_two_50 : decode cX12_two 50 = .ok (.iload 4, 2) := by decide +kernel
theorem dX12_two_52 : decode cX12_two 52 = .ok (.iadd, 1) := by decide +kernel
theorem dX12_two_53 : decode cX12_two 53 = .ok (.bipush 14, 2) := by decide +kernel
theorem dX12_two_55 : decode cX12_two 55 = .ok (.if_icmp .le 6, 3) := by decide +kernel
theorem dX12_two_58 : decode cX12_two 58 = .ok (.bipush (-4), 2) := by decide +kernel
theorem dX12_two_60 : decode cX12_two 60 = .ok (.ireturn, 1) := by decide +kernel
theorem dX12_two_61 : decode cX12_two 61 = .ok (.aload_n 0, 1) := by decide +kernel
theorem dX12_two_62 : decode cX12_two 62 = .ok (.iload_n 1, 1) := by decide +kernel
theorem dX12_two_63 : decode cX12_two 63 = .ok (.iconst 0, 1) := by decide +kernel
theorem dX12_two_64 : decode cX12_two 64 = .ok (.invokevirtual 165, 3) := by decide +kernel
theorem dX12_two_67 : decode cX12_two 67 = .ok (.istore 5, 2) := by decide +kernel
theorem dX12_two_69 : decode cX12_two 69 = .ok (.iload 5, 2) := by decide +kernel
theorem dX12_two_71 : decode cX12_two 71 = .ok (.aload_n 0, 1) := by decide +kernel
theorem dX12_two_72 : decode cX12_two 72 = .ok (.iload_n 2, 1) := by decide +kernel
theorem dX12_two_73 : decode cX12_two 73 = .ok (.iconst 0, 1) := by decide +kernel
theorem dX12_two_74 : decode cX12_two 74 = .ok (.invokevirtual 165, 3) := by decide +kernel
theorem dX12_two_77 : decode cX12_two 77 = .ok (.iadd, 1) := by decide +kernel
theorem dX12_two_78 : decode cX12_two 78 = .ok (.istore 6, 2) := by decide +kernel
theorem dX12_two_80 : decode cX12_two 80 = .ok (.iload 5, 2) := by decide +kernel
theorem dX12_two_82 : decode cX12_two 82 = .ok (.iload 4, 2) := by decide +kernel
theorem dX12_two_84 : decode cX12_two 84 = .ok (.imul, 1) := by decide +kernel
theorem dX12_two_85 : decode cX12_two 85 = .ok (.iload 6, 2) := by decide +kernel
theorem dX12_two_87 : decode cX12_two 87 = .ok (.iload 5, 2) := by decide +kernel
theorem dX12_two_89 : decode cX12_two 89 = .ok (.isub, 1) := by decide +kernel
theorem dX12_two_90 : decode cX12_two 90 = .ok (.iload_n 3, 1) := by decide +kernel
theorem dX12_two_91 : decode cX12_two 91 = .ok (.imul, 1) := by decide +kernel
theorem dX12_two_92 : decode cX12_two 92 = .ok (.isub, 1) := by decide +kernel
theorem dX12_two_93 : decode cX12_two 93 = .ok (.invokestatic 204, 3) := by decide +kernel
theorem dX12_two_96 : decode cX12_two 96 = .ok (.istore 7, 2) := by decide +kernel
theorem dX12_two_98 : decode cX12_two 98 = .ok (.iconst 0, 1) := by decide +kernel
theorem dX12_two_99 : decode cX12_two 99 = .ok (.istore 8, 2) := by decide +kernel
theorem dX12_two_101 : decode cX12_two 101 = .ok (.iconst 0, 1) := by decide +kernel
theorem dX12_two_102 : decode cX12_two 102 = .ok (.istore 9, 2) := by decide +kernel
theorem dX12_two_104 : decode cX12_two 104 = .ok (.iload 9, 2) := by decide +kernel
theorem dX12_two_106 : decode cX12_two 106 = .ok (.aload_n 0, 1) := by decide +kernel
theorem dX12_two_107 : decode cX12_two 107 = .ok (.getfield 124, 3) := by decide +kernel
theorem dX12_two_110 : decode cX12_two 110 = .ok (.if_icmp .ge 48, 3) := by decide +kernel
theorem dX12_two_113 : decode cX12_two 113 = .ok (.aload_n 0, 1) := by decide +kernel
theorem dX12_two_114 : decode cX12_two 114 = .ok (.iload 9, 2) := by decide +kernel
theorem dX12_two_116 : decode cX12_two 116 = .ok (.iload_n 1, 1) := by decide +kernel
theorem dX12_two_117 : decode cX12_two 117 = .ok (.iconst 0, 1) := by decide +kernel
theorem dX12_two_118 : decode cX12_two 118 = .ok (.invokevirtual 141, 3) := by decide +kernel
theorem dX12_two_121 : decode cX12_two 121 = .ok (.ifCond .ne 14, 3) := by decide +kernel
theorem dX12_two_124 : decode cX12_two 124 = .ok (.aload_n 0, 1) := by decide +kernel
theorem dX12_two_125 : decode cX12_two 125 = .ok (.iload 9, 2) := by decide +kernel
theorem dX12_two_127 : decode cX12_two 127 = .ok (.iload_n 2, 1) := by decide +kernel
theorem dX12_two_128 : decode cX12_two 128 = .ok (.iconst 0, 1) := by decide +kernel
theorem dX12_two_129 : decode cX12_two 129 = .ok (.invokevirtual 141, 3) := by decide +kernel
theorem dX12_two_132 : decode cX12_two 132 = .ok (.ifCond .eq 20, 3) := by decide +kernel
theorem dX12_two_135 : decode cX12_two 135 = .ok (.aload_n 0, 1) := by decide +kernel
theorem dX12_two_136 : decode cX12_two 136 = .ok (.getfield 68, 3) := by decide +kernel
theorem dX12_two_139 : decode cX12_two 139 = .ok (.iload 8, 2) := by decide +kernel
theorem dX12_two_141 : decode cX12_two 141 = .ok (.aload_n 0, 1) := by decide +kernel
theorem dX12_two_142 : decode cX12_two 142 = .ok (.getfield 16, 3) := by decide +kernel
theorem dX12_two_145 : decode cX12_two 145 = .ok (.iload 9, 2) := by decide +kernel
theorem dX12_two_147 : decode cX12_two 147 = .ok (.iaload, 1) := by decide +kernel
theorem dX12_two_148 : decode cX12_two 148 = .ok (.iastore, 1) := by decide +kernel
theorem dX12_two_149 : decode cX12_two 149 = .ok (.iinc 8 1, 3) := by decide +kernel
theorem dX12_two_152 : decode cX12_two 152 = .ok (.iinc 9 1, 3) := by decide +kernel
theorem dX12_two_155 : decode cX12_two 155 = .ok (.goto (-51), 3) := by decide +kernel
theorem dX12_two_158 : decode cX12_two 158 = .ok (.lconst 0, 1) := by decide +kernel
theorem dX12_two_159 : decode cX12_two 159 = .ok (.lstore 9, 2) := by decide +kernel
theorem dX12_two_161 : decode cX12_two 161 = .ok (.lconst 0, 1) := by decide +kernel
theorem dX12_two_162 : decode cX12_two 162 = .ok (.lstore 11, 2) := by decide +kernel
theorem dX12_two_164 : decode cX12_two 164 = .ok (.iconst 0, 1) := by decide +kernel
theorem dX12_two_165 : decode cX12_two 165 = .ok (.istore 13, 2) := by decide +kernel
theorem dX12_two_167 : decode cX12_two 167 = .ok (.iload 13, 2) := by decide +kernel
theorem dX12_two_169 : decode cX12_two 169 = .ok (.iconst 1, 1) := by decide +kernel
theorem dX12_two_170 : decode cX12_two 170 = .ok (.iload_n 3, 1) := by decide +kernel
theorem dX12_two_171 : decode cX12_two 171 = .ok (.iload 4, 2) := by decide +kernel
theorem dX12_two_173 : decode cX12_two 173 = .ok (.iadd, 1) := by decide +kernel
theorem dX12_two_174 : decode cX12_two 174 = .ok (.ishl, 1) := by decide +kernel
theorem dX12_two_175 : decode cX12_two 175 = .ok (.if_icmp .ge 102, 3) := by decide +kernel
theorem dX12_two_178 : decode cX12_two 178 = .ok (.iload 13, 2) := by decide +kernel
theorem dX12_two_180 : decode cX12_two 180 = .ok (.invokestatic 246, 3) := by decide +kernel
theorem dX12_two_183 : decode cX12_two 183 = .ok (.iload_n 3, 1) := by decide +kernel
theorem dX12_two_184 : decode cX12_two 184 = .ok (.if_icmp .ne 87, 3) := by decide +kernel
theorem dX12_two_187 : decode cX12_two 187 = .ok (.iconst 0, 1) := by decide +kernel
theorem dX12_two_188 : decode cX12_two 188 = .ok (.istore 14, 2) := by decide +kernel
theorem dX12_two_190 : decode cX12_two 190 = .ok (.iconst 0, 1) := by decide +kernel
theorem dX12_two_191 : decode cX12_two 191 = .ok (.istore 15, 2) := by decide +kernel
theorem dX12_two_193 : decode cX12_two 193 = .ok (.iload 15, 2) := by decide +kernel
theorem dX12_two_195 : decode cX12_two 195 = .ok (.iload_n 3, 1) := by decide +kernel
theorem dX12_two_196 : decode cX12_two 196 = .ok (.iload 4, 2) := by decide +kernel
theorem dX12_two_198 : decode cX12_two 198 = .ok (.iadd, 1) := by decide +kernel
theorem dX12_two_199 : decode cX12_two 199 = .ok (.if_icmp .ge 35, 3) := by decide +kernel
theorem dX12_two_202 : decode cX12_two 202 = .ok (.iload 14, 2) := by decide +kernel
theorem dX12_two_204 : decode cX12_two 204 = .ok (.iload 13, 2) := by decide +kernel
theorem dX12_two_206 : decode cX12_two 206 = .ok (.iload 15, 2) := by decide +kernel
theorem dX12_two_208 : decode cX12_two 208 = .ok (.invokestatic 179, 3) := by decide +kernel
theorem dX12_two_211 : decode cX12_two 211 = .ok (.ifCond .eq 13, 3) := by decide +kernel
theorem dX12_two_214 : decode cX12_two 214 = .ok (.aload_n 0, 1) := by decide +kernel
theorem dX12_two_215 : decode cX12_two 215 = .ok (.getfield 68, 3) := by decide +kernel
theorem dX12_two_218 : decode cX12_two 218 = .ok (.iload 15, 2) := by decide +kernel
theorem dX12_two_220 : decode cX12_two 220 = .ok (.iaload, 1) := by decide +kernel
theorem dX12_two_221 : decode cX12_two 221 = .ok (.goto 4, 3) := by decide +kernel
theorem dX12_two_224 : decode cX12_two 224 = .ok (.iconst 0, 1) := by decide +kernel
theorem dX12_two_225 : decode cX12_two 225 = .ok (.iadd, 1) := by decide +kernel
theorem dX12_two_226 : decode cX12_two 226 = .ok (.istore 14, 2) := by decide +kernel
theorem dX12_two_228 : decode cX12_two 228 = .ok (.iinc 15 1, 3) := by decide +kernel
theorem dX12_two_231 : decode cX12_two 231 = .ok (.goto (-38), 3) := by decide +kernel
theorem dX12_two_234 : decode cX12_two 234 = .ok (.lload 9, 2) := by decide +kernel
theorem dX12_two_236 : decode cX12_two 236 = .ok (.lconst 1, 1) := by decide +kernel
theorem dX12_two_237 : decode cX12_two 237 = .ok (.ladd, 1) := by decide +kernel
theorem dX12_two_238 : decode cX12_two 238 = .ok (.lstore 9, 2) := by decide +kernel
theorem dX12_two_240 : decode cX12_two 240 = .ok (.lload 11, 2) := by decide +kernel
theorem dX12_two_242 : decode cX12_two 242 = .ok (.iload 14, 2) := by decide +kernel
theorem dX12_two_244 : decode cX12_two 244 = .ok (.iload 4, 2) := by decide +kernel
theorem dX12_two_246 : decode cX12_two 246 = .ok (.imul, 1) := by decide +kernel
theorem dX12_two_247 : decode cX12_two 247 = .ok (.iload 6, 2) := by decide +kernel
theorem dX12_two_249 : decode cX12_two 249 = .ok (.iload 14, 2) := by decide +kernel
theorem dX12_two_251 : decode cX12_two 251 = .ok (.isub, 1) := by decide +kernel
theorem dX12_two_252 : decode cX12_two 252 = .ok (.iload_n 3, 1) := by decide +kernel
theorem dX12_two_253 : decode cX12_two 253 = .ok (.imul, 1) := by decide +kernel
theorem dX12_two_254 : decode cX12_two 254 = .ok (.isub, 1) := by decide +kernel
theorem dX12_two_255 : decode cX12_two 255 = .ok (.invokestatic 204, 3) := by decide +kernel
theorem dX12_two_258 : decode cX12_two 258 = .ok (.iload 7, 2) := by decide +kernel
theorem dX12_two_260 : decode cX12_two 260 = .ok (.if_icmp .lt 7, 3) := by decide +kernel
theorem dX12_two_263 : decode cX12_two 263 = .ok (.lconst 1, 1) := by decide +kernel
theorem dX12_two_264 : decode cX12_two 264 = .ok (.goto 4, 3) := by decide +kernel
theorem dX12_two_267 : decode cX12_two 267 = .ok (.lconst 0, 1) := by decide +kernel
theorem dX12_two_268 : decode cX12_two 268 = .ok (.ladd, 1) := by decide +kernel
theorem dX12_two_269 : decode cX12_two 269 = .ok (.lstore 11, 2) := by decide +kernel
theorem dX12_two_271 : decode cX12_two 271 = .ok (.iinc 13 1, 3) := by decide +kernel
theorem dX12_two_274 : decode cX12_two 274 = .ok (.goto (-107), 3) := by decide +kernel
theorem dX12_two_277 : decode cX12_two 277 = .ok (.ldc2_w 249, 3) := by decide +kernel
theorem dX12_two_280 : decode cX12_two 280 = .ok (.lload 11, 2) := by decide +kernel
theorem dX12_two_282 : decode cX12_two 282 = .ok (.lmul, 1) := by decide +kernel
theorem dX12_two_283 : decode cX12_two 283 = .ok (.lload 9, 2) := by decide +kernel
theorem dX12_two_285 : decode cX12_two 285 = .ok (.ldiv, 1) := by decide +kernel
theorem dX12_two_286 : decode cX12_two 286 = .ok (.l2i, 1) := by decide +kernel
theorem dX12_two_287 : decode cX12_two 287 = .ok (.ireturn, 1) := by decide +kernel
theorem dX12_thing_0 : decode cX12_thing 0 = .ok (.iload_n 1, 1) := by decide +kernel
theorem dX12_thing_1 : decode cX12_thing 1 = .ok (.iconst 0, 1) := by decide +kernel
theorem dX12_thing_2 : decode cX12_thing 2 = .ok (.bipush 99, 2) := by decide +kernel
theorem dX12_thing_4 : decode cX12_thing 4 = .ok (.invokestatic 107, 3) := by decide +kernel
theorem dX12_thing_7 : decode cX12_thing 7 = .ok (.ifCond .eq 34, 3) := by decide +kernel
theorem dX12_thing_10 : decode cX12_thing 10 = .ok (.iload_n 2, 1) := by decide +kernel
theorem dX12_thing_11 : decode cX12_thing 11 = .ok (.iconst 0, 1) := by decide +kernel
theorem dX12_thing_12 : decode cX12_thing 12 = .ok (.bipush 99, 2) := by decide +kernel
theorem dX12_thing_14 : decode cX12_thing 14 = .ok (.invokestatic 107, 3) := by decide +kernel
theorem dX12_thing_17 : decode cX12_thing 17 = .ok (.ifCond .eq 24, 3) := by decide +kernel
theorem dX12_thing_20 : decode cX12_thing 20 = .ok (.iload_n 3, 1) := by decide +kernel
theorem dX12_thing_21 : decode cX12_thing 21 = .ok (.iconst 0, 1) := by decide +kernel
theorem dX12_thing_22 : decode cX12_thing 22 = .ok (.bipush 99, 2) := by decide +kernel
theorem dX12_thing_24 : decode cX12_thing 24 = .ok (.invokestatic 107, 3) := by decide +kernel
theorem dX12_thing_27 : decode cX12_thing 27 = .ok (.ifCond .eq 14, 3) := by decide +kernel
theorem dX12_thing_30 : decode cX12_thing 30 = .ok (.iload 4, 2) := by decide +kernel
theorem dX12_thing_32 : decode cX12_thing 32 = .ok (.iconst 0, 1) := by decide +kernel
theorem dX12_thing_33 : decode cX12_thing 33 = .ok (.bipush 99, 2) := by decide +kernel
theorem dX12_thing_35 : decode cX12_thing 35 = .ok (.invokestatic 107, 3) := by decide +kernel
theorem dX12_thing_38 : decode cX12_thing 38 = .ok (.ifCond .ne 6, 3) := by decide +kernel
theorem dX12_thing_41 : decode cX12_thing 41 = .ok (.bipush (-2), 2) := by decide +kernel
theorem dX12_thing_43 : decode cX12_thing 43 = .ok (.ireturn, 1) := by decide +kernel
theorem dX12_thing_44 : decode cX12_thing 44 = .ok (.aload_n 0, 1) := by decide +kernel
theorem dX12_thing_45 : decode cX12_thing 45 = .ok (.getfield 251, 3) := by decide +kernel
theorem dX12_thing_48 : decode cX12_thing 48 = .ok (.bipush 6, 2) := by decide +kernel
theorem dX12_thing_50 : decode cX12_thing 50 = .ok (.if_icmp .ne 6, 3) := by decide +kernel
theorem dX12_thing_53 : decode cX12_thing 53 = .ok (.bipush (-4), 2) := by decide +kernel
theorem dX12_thing_55 : decode cX12_thing 55 = .ok (.ireturn, 1) := by decide +kernel
theorem dX12_thing_56 : decode cX12_thing 56 = .ok (.aload_n 0, 1) := by decide +kernel
theorem dX12_thing_57 : decode cX12_thing 57 = .ok (.getfield 71, 3) := by decide +kernel
theorem dX12_thing_60 : decode cX12_thing 60 = .ok (.iconst 4, 1) := by decide +kernel
theorem dX12_thing_61 : decode cX12_thing 61 = .ok (.aload_n 0, 1) := by decide +kernel
theorem dX12_thing_62 : decode cX12_thing 62 = .ok (.getfield 251, 3) := by decide +kernel
theorem dX12_thing_65 : decode cX12_thing 65 = .ok (.imul, 1) := by decide +kernel
theorem dX12_thing_66 : decode cX12_thing 66 = .ok (.iload_n 1, 1) := by decide +kernel
theorem dX12_thing_67 : decode cX12_thing 67 = .ok (.iastore, 1) := by decide +kernel
theorem dX12_thing_68 : decode cX12_thing 68 = .ok (.aload_n 0, 1) := by decide +kernel
theorem dX12_thing_69 : decode cX12_thing 69 = .ok (.getfield 71, 3) := by decide +kernel
theorem dX12_thing_72 : decode cX12_thing 72 = .ok (.iconst 4, 1) := by decide +kernel
theorem dX12_thing_73 : decode cX12_thing 73 = .ok (.aload_n 0, 1) := by decide +kernel
theorem dX12_thing_74 : decode cX12_thing 74 = .ok (.getfield 251, 3) := by decide +kernel
theorem dX12_thing_77 : decode cX12_thing 77 = .ok (.imul, 1) := by decide +kernel
theorem dX12_thing_78 : decode cX12_thing 78 = .ok (.iconst 1, 1) := by decide +kernel
theorem dX12_thing_79 : decode cX12_thing 79 = .ok (.iadd, 1) := by decide +kernel
theorem dX12_thing_80 : decode cX12_thing 80 = .ok (.iload_n 2, 1) := by decide +kernel
theorem dX12_thing_81 : decode cX12_thing 81 = .ok (.iastore, 1) := by decide +kernel
theorem dX12_thing_82 : decode cX12_thing 82 = .ok (.aload_n 0, 1) := by decide +kernel
theorem dX12_thing_83 : decode cX12_thing 83 = .ok (.getfield 71, 3) := by decide +kernel
theorem dX12_thing_86 : decode cX12_thing 86 = .ok (.iconst 4, 1) := by decide +kernel
theorem dX12_thing_87 : decode cX12_thing 87 = .ok (.aload_n 0, 1) := by decide +kernel
theorem dX12_thing_88 : decode cX12_thing 88 = .ok (.getfield 251, 3) := by decide +kernel
theorem dX12_thing_91 : decode cX12_thing 91 = .ok (.imul, 1) := by decide +kernel
theorem dX12_thing_92 : decode cX12_thing 92 = .ok (.iconst 2, 1) := by decide +kernel
theorem dX12_thing_93 : decode cX12_thing 93 = .ok (.iadd, 1) := by decide +kernel
theorem dX12_thing_94 : decode cX12_thing 94 = .ok (.iload_n 3, 1) := by decide +kernel
theorem dX12_thing_95 : decode cX12_thing 95 = .ok (.iastore, 1) := by decide +kernel
theorem dX12_thing_96 : decode cX12_thing 96 = .ok (.aload_n 0, 1) := by decide +kernel
theorem dX12_thing_97 : decode cX12_thing 97 = .ok (.getfield 71, 3) := by decide +kernel
theorem dX12_thing_100 : decode cX12_thing 100 = .ok (.iconst 4, 1) := by decide +kernel
theorem dX12_thing_101 : decode cX12_thing 101 = .ok (.aload_n 0, 1) := by decide +kernel
theorem dX12_thing_102 : decode cX12_thing 102 = .ok (.getfield 251, 3) := by decide +kernel
theorem dX12_thing_105 : decode cX12_thing 105 = .ok (.imul, 1) := by decide +kernel
theorem dX12_thing_106 : decode cX12_thing 106 = .ok (.iconst 3, 1) := by decide +kernel
theorem dX12_thing_107 : decode cX12_thing 107 = .ok (.iadd, 1) := by decide +kernel
theorem dX12_thing_108 : decode cX12_thing 108 = .ok (.iload 4, 2) := by decide +kernel
theorem dX12_thing_110 : decode cX12_thing 110 = .ok (.iastore, 1) := by decide +kernel
theorem dX12_thing_111 : decode cX12_thing 111 = .ok (.aload_n 0, 1) := by decide +kernel
theorem dX12_thing_112 : decode cX12_thing 112 = .ok (.dup, 1) := by decide +kernel
theorem dX12_thing_113 : decode cX12_thing 113 = .ok (.getfield 251, 3) := by decide +kernel
theorem dX12_thing_116 : decode cX12_thing 116 = .ok (.iconst 1, 1) := by decide +kernel
theorem dX12_thing_117 : decode cX12_thing 117 = .ok (.iadd, 1) := by decide +kernel
theorem dX12_thing_118 : decode cX12_thing 118 = .ok (.putfield 251, 3) := by decide +kernel
theorem dX12_thing_121 : decode cX12_thing 121 = .ok (.aload_n 0, 1) := by decide +kernel
theorem dX12_thing_122 : decode cX12_thing 122 = .ok (.getfield 251, 3) := by decide +kernel
theorem dX12_thing_125 : decode cX12_thing 125 = .ok (.iconst 1, 1) := by decide +kernel
theorem dX12_thing_126 : decode cX12_thing 126 = .ok (.isub, 1) := by decide +kernel
theorem dX12_thing_127 : decode cX12_thing 127 = .ok (.ireturn, 1) := by decide +kernel
theorem dX12_way_0 : decode cX12_way 0 = .ok (.iload_n 0, 1) := by decide +kernel
theorem dX12_way_1 : decode cX12_way 1 = .ok (.ifCond .le 7, 3) := by decide +kernel
theorem dX12_way_4 : decode cX12_way 4 = .ok (.iconst 1, 1) := by decide +kernel
theorem dX12_way_5 : decode cX12_way 5 = .ok (.goto 12, 3) := by decide +kernel
theorem dX12_way_8 : decode cX12_way 8 = .ok (.iload_n 0, 1) := by decide +kernel
theorem dX12_way_9 : decode cX12_way 9 = .ok (.ifCond .ge 7, 3) := by decide +kernel
theorem dX12_way_12 : decode cX12_way 12 = .ok (.iconst (-1), 1) := by decide +kernel
theorem dX12_way_13 : decode cX12_way 13 = .ok (.goto 4, 3) := by decide +kernel
theorem dX12_way_16 : decode cX12_way 16 = .ok (.iconst 0, 1) := by decide +kernel
theorem dX12_way_17 : decode cX12_way 17 = .ok (.ireturn, 1) := by decide +kernel
theorem dX12_gathers_0 : decode cX12_gathers 0 = .ok (.aload_n 0, 1) := by decide +kernel
theorem dX12_gathers_1 : decode cX12_gathers 1 = .ok (.iconst 0, 1) := by decide +kernel
theorem dX12_gathers_2 : decode cX12_gathers 2 = .ok (.putfield 254, 3) := by decide +kernel
theorem dX12_gathers_5 : decode cX12_gathers 5 = .ok (.iconst 0, 1) := by decide +kernel
theorem dX12_gathers_6 : decode cX12_gathers 6 = .ok (.istore_n 1, 1) := by decide +kernel
theorem dX12_gathers_7 : decode cX12_gathers 7 = .ok (.iload_n 1, 1) := by decide +kernel
theorem dX12_gathers_8 : decode cX12_gathers 8 = .ok (.iconst 4, 1) := by decide +kernel
theorem dX12_gathers_9 : decode cX12_gathers 9 = .ok (.if_icmp .ge 48, 3) := by decide +kernel
theorem dX12_gathers_12 : decode cX12_gathers 12 = .ok (.aload_n 0, 1) := by decide +kernel
theorem dX12_gathers_13 : decode cX12_gathers 13 = .ok (.iload_n 1, 1) := by decide +kernel
theorem dX12_gathers_14 : decode cX12_gathers 14 = .ok (.iconst 0, 1) := by decide +kernel
theorem dX12_gathers_15 : decode cX12_gathers 15 = .ok (.invokevirtual 144, 3) := by decide +kernel
theorem dX12_gathers_18 : decode cX12_gathers 18 = .ok (.ifCond .le 33, 3) := by decide +kernel
theorem dX12_gathers_21 : decode cX12_gathers 21 = .ok (.aload_n 0, 1) := by decide +kernel
theorem dX12_gathers_22 : decode cX12_gathers 22 = .ok (.getfield 74, 3) := by decide +kernel
theorem dX12_gathers_25 : decode cX12_gathers 25 = .ok (.aload_n 0, 1) := by decide +kernel
theorem dX12_gathers_26 : decode cX12_gathers 26 = .ok (.getfield 254, 3) := by decide +kernel
theorem dX12_gathers_29 : decode cX12_gathers 29 = .ok (.iload_n 1, 1) := by decide +kernel
theorem dX12_gathers_30 : decode cX12_gathers 30 = .ok (.iastore, 1) := by decide +kernel
theorem dX12_gathers_31 : decode cX12_gathers 31 = .ok (.aload_n 0, 1) := by decide +kernel
theorem dX12_gathers_32 : decode cX12_gathers 32 = .ok (.getfield 77, 3) := by decide +kernel
theorem dX12_gathers_35 : decode cX12_gathers 35 = .ok (.aload_n 0, 1) := by decide +kernel
theorem dX12_gathers_36 : decode cX12_gathers 36 = .ok (.getfield 254, 3) := by decide +kernel
theorem dX12_gathers_39 : decode cX12_gathers 39 = .ok (.iload_n 1, 1) := by decide +kernel
theorem dX12_gathers_40 : decode cX12_gathers 40 = .ok (.iastore, 1) := by decide +kernel
theorem dX12_gathers_41 : decode cX12_gathers 41 = .ok (.aload_n 0, 1) := by decide +kernel
theorem dX12_gathers_42 : decode cX12_gathers 42 = .ok (.dup, 1) := by decide +kernel
theorem dX12_gathers_43 : decode cX12_gathers 43 = .ok (.getfield 254, 3) := by decide +kernel
theorem dX12_gathers_46 : decode cX12_gathers 46 = .ok (.iconst 1, 1) := by decide +kernel
theorem dX12_gathers_47 : decode cX12_gathers 47 = .ok (.iadd, 1) := by decide +kernel
theorem dX12_gathers_48 : decode cX12_gathers 48 = .ok (.putfield 254, 3) := by decide +kernel
theorem dX12_gathers_51 : decode cX12_gathers 51 = .ok (.iinc 1 1, 3) := by decide +kernel
theorem dX12_gathers_54 : decode cX12_gathers 54 = .ok (.goto (-47), 3) := by decide +kernel
theorem dX12_gathers_57 : decode cX12_gathers 57 = .ok (.return_, 1) := by decide +kernel
theorem dX12_goesBy_0 : decode cX12_goesBy 0 = .ok (.iconst 0, 1) := by decide +kernel
theorem dX12_goesBy_1 : decode cX12_goesBy 1 = .ok (.istore_n 2, 1) := by decide +kernel
theorem dX12_goesBy_2 : decode cX12_goesBy 2 = .ok (.iconst 0, 1) := by decide +kernel
theorem dX12_goesBy_3 : decode cX12_goesBy 3 = .ok (.istore_n 3, 1) := by decide +kernel
theorem dX12_goesBy_4 : decode cX12_goesBy 4 = .ok (.iload_n 3, 1) := by decide +kernel
theorem dX12_goesBy_5 : decode cX12_goesBy 5 = .ok (.aload_n 0, 1) := by decide +kernel
theorem dX12_goesBy_6 : decode cX12_goesBy 6 = .ok (.getfield 254, 3) := by decide +kernel
theorem dX12_goesBy_9 : decode cX12_goesBy 9 = .ok (.if_icmp .ge 119, 3) := by decide +kernel
theorem dX12_goesBy_12 : decode cX12_goesBy 12 = .ok (.iconst 0, 1) := by decide +kernel
theorem dX12_goesBy_13 : decode cX12_goesBy 13 = .ok (.istore 4, 2) := by decide +kernel
theorem dX12_goesBy_15 : decode cX12_goesBy 15 = .ok (.iload 4, 2) := by decide +kernel
theorem dX12_goesBy_17 : decode cX12_goesBy 17 = .ok (.iload_n 3, 1) := by decide +kernel
theorem dX12_goesBy_18 : decode cX12_goesBy 18 = .ok (.if_icmp .ge 104, 3) := by decide +kernel
theorem dX12_goesBy_21 : decode cX12_goesBy 21 = .ok (.aload_n 0, 1) := by decide +kernel
theorem dX12_goesBy_22 : decode cX12_goesBy 22 = .ok (.aload_n 0, 1) := by decide +kernel
theorem dX12_goesBy_23 : decode cX12_goesBy 23 = .ok (.getfield 77, 3) := by decide +kernel
theorem dX12_goesBy_26 : decode cX12_goesBy 26 = .ok (.iload_n 3, 1) := by decide +kernel
theorem dX12_goesBy_27 : decode cX12_goesBy 27 = .ok (.iaload, 1) := by decide +kernel
theorem dX12_goesBy_28 : decode cX12_goesBy 28 = .ok (.iconst 0, 1) := by decide +kernel
theorem dX12_goesBy_29 : decode cX12_goesBy 29 = .ok (.invokevirtual 165, 3) := by decide +kernel
theorem dX12_goesBy_32 : decode cX12_goesBy 32 = .ok (.aload_n 0, 1) := by decide +kernel
theorem dX12_goesBy_33 : decode cX12_goesBy 33 = .ok (.aload_n 0, 1) := by decide +kernel
theorem dX12_goesBy_34 : decode cX12_goesBy 34 = .ok (.getfield 77, 3) := by decide +kernel
theorem dX12_goesBy_37 : decode cX12_goesBy 37 = .ok (.iload 4, 2) := by decide +kernel
theorem dX12_goesBy_39 : decode cX12_goesBy 39 = .ok (.iaload, 1) := by decide +kernel
theorem dX12_goesBy_40 : decode cX12_goesBy 40 = .ok (.iconst 0, 1) := by decide +kernel
theorem dX12_goesBy_41 : decode cX12_goesBy 41 = .ok (.invokevirtual 144, 3) := by decide +kernel
theorem dX12_goesBy_44 : decode cX12_goesBy 44 = .ok (.imul, 1) := by decide +kernel
theorem dX12_goesBy_45 : decode cX12_goesBy 45 = .ok (.aload_n 0, 1) := by decide +kernel
theorem dX12_goesBy_46 : decode cX12_goesBy 46 = .ok (.aload_n 0, 1) := by decide +kernel
theorem dX12_goesBy_47 : decode cX12_goesBy 47 = .ok (.getfield 77, 3) := by decide +kernel
theorem dX12_goesBy_50 : decode cX12_goesBy 50 = .ok (.iload 4, 2) := by decide +kernel
theorem dX12_goesBy_52 : decode cX12_goesBy 52 = .ok (.iaload, 1) := by decide +kernel
theorem dX12_goesBy_53 : decode cX12_goesBy 53 = .ok (.iconst 0, 1) := by decide +kernel
theorem dX12_goesBy_54 : decode cX12_goesBy 54 = .ok (.invokevirtual 165, 3) := by decide +kernel
theorem dX12_goesBy_57 : decode cX12_goesBy 57 = .ok (.aload_n 0, 1) := by decide +kernel
theorem dX12_goesBy_58 : decode cX12_goesBy 58 = .ok (.aload_n 0, 1) := by decide +kernel
theorem dX12_goesBy_59 : decode cX12_goesBy 59 = .ok (.getfield 77, 3) := by decide +kernel
theorem dX12_goesBy_62 : decode cX12_goesBy 62 = .ok (.iload_n 3, 1) := by decide +kernel
theorem dX12_goesBy_63 : decode cX12_goesBy 63 = .ok (.iaload, 1) := by decide +kernel
theorem dX12_goesBy_64 : decode cX12_goesBy 64 = .ok (.iconst 0, 1) := by decide +kernel
theorem dX12_goesBy_65 : decode cX12_goesBy 65 = .ok (.invokevirtual 144, 3) := by decide +kernel
theorem dX12_goesBy_68 : decode cX12_goesBy 68 = .ok (.imul, 1) := by decide +kernel
theorem dX12_goesBy_69 : decode cX12_goesBy 69 = .ok (.isub, 1) := by decide +kernel
theorem dX12_goesBy_70 : decode cX12_goesBy 70 = .ok (.invokestatic 257, 3) := by decide +kernel
theorem dX12_goesBy_73 : decode cX12_goesBy 73 = .ok (.istore 5, 2) := by decide +kernel
theorem dX12_goesBy_75 : decode cX12_goesBy 75 = .ok (.iload_n 2, 1) := by decide +kernel
theorem dX12_goesBy_76 : decode cX12_goesBy 76 = .ok (.iload 5, 2) := by decide +kernel
theorem dX12_goesBy_78 : decode cX12_goesBy 78 = .ok (.aload_n 0, 1) := by decide +kernel
theorem dX12_goesBy_79 : decode cX12_goesBy 79 = .ok (.getfield 71, 3) := by decide +kernel
theorem dX12_goesBy_82 : decode cX12_goesBy 82 = .ok (.iconst 4, 1) := by decide +kernel
theorem dX12_goesBy_83 : decode cX12_goesBy 83 = .ok (.iload_n 1, 1) := by decide +kernel
theorem dX12_goesBy_84 : decode cX12_goesBy 84 = .ok (.imul, 1) := by decide +kernel
theorem dX12_goesBy_85 : decode cX12_goesBy 85 = .ok (.aload_n 0, 1) := by decide +kernel
theorem dX12_goesBy_86 : decode cX12_goesBy 86 = .ok (.getfield 74, 3) := by decide +kernel
theorem dX12_goesBy_89 : decode cX12_goesBy 89 = .ok (.iload_n 3, 1) := by decide +kernel
theorem dX12_goesBy_90 : decode cX12_goesBy 90 = .ok (.iaload, 1) := by decide +kernel
theorem dX12_goesBy_91 : decode cX12_goesBy 91 = .ok (.iadd, 1) := by decide +kernel
theorem dX12_goesBy_92 : decode cX12_goesBy 92 = .ok (.iaload, 1) := by decide +kernel
theorem dX12_goesBy_93 : decode cX12_goesBy 93 = .ok (.aload_n 0, 1) := by decide +kernel
theorem dX12_goesBy_94 : decode cX12_goesBy 94 = .ok (.getfield 71, 3) := by decide +kernel
theorem dX12_goesBy_97 : decode cX12_goesBy 97 = .ok (.iconst 4, 1) := by decide +kernel
theorem dX12_goesBy_98 : decode cX12_goesBy 98 = .ok (.iload_n 1, 1) := by decide +kernel
theorem dX12_goesBy_99 : decode cX12_goesBy 99 = .ok (.imul, 1) := by decide +kernel
theorem dX12_goesBy_100 : decode cX12_goesBy 100 = .ok (.aload_n 0, 1) := by decide +kernel
theorem dX12_goesBy_101 : decode cX12_goesBy 101 = .ok (.getfield 74, 3) := by decide +kernel
theorem dX12_goesBy_104 : decode cX12_goesBy 104 = .ok (.iload 4, 2) := by decide +kernel
theorem dX12_goesBy_106 : decode cX12_goesBy 106 = .ok (.iaload, 1) := by decide +kernel
theorem dX12_goesBy_107 : decode cX12_goesBy 107 = .ok (.iadd, 1) := by decide +kernel
theorem dX12_goesBy_108 : decode cX12_goesBy 108 = .ok (.iaload, 1) := by decide +kernel
theorem dX12_goesBy_109 : decode cX12_goesBy 109 = .ok (.isub, 1) := by decide +kernel
theorem dX12_goesBy_110 : decode cX12_goesBy 110 = .ok (.invokestatic 257, 3) := by decide +kernel
theorem dX12_goesBy_113 : decode cX12_goesBy 113 = .ok (.imul, 1) := by decide +kernel
theorem dX12_goesBy_114 : decode cX12_goesBy 114 = .ok (.iadd, 1) := by decide +kernel
theorem dX12_goesBy_115 : decode cX12_goesBy 115 = .ok (.istore_n 2, 1) := by decide +kernel
theorem dX12_goesBy_116 : decode cX12_goesBy 116 = .ok (.iinc 4 1, 3) := by decide +kernel
theorem dX12_goesBy_119 : decode cX12_goesBy 119 = .ok (.goto (-104), 3) := by decide +kernel
theorem dX12_goesBy_122 : decode cX12_goesBy 122 = .ok (.iinc 3 1, 3) := by decide +kernel
theorem dX12_goesBy_125 : decode cX12_goesBy 125 = .ok (.goto (-121), 3) := by decide +kernel
theorem dX12_goesBy_128 : decode cX12_goesBy 128 = .ok (.iload_n 2, 1) := by decide +kernel
theorem dX12_goesBy_129 : decode cX12_goesBy 129 = .ok (.ireturn, 1) := by decide +kernel
theorem dX12_goesNow_0 : decode cX12_goesNow 0 = .ok (.aload_n 0, 1) := by decide +kernel
theorem dX12_goesNow_1 : decode cX12_goesNow 1 = .ok (.invokevirtual 260, 3) := by decide +kernel
theorem dX12_goesNow_4 : decode cX12_goesNow 4 = .ok (.aload_n 0, 1) := by decide +kernel
theorem dX12_goesNow_5 : decode cX12_goesNow 5 = .ok (.iload_n 1, 1) := by decide +kernel
theorem dX12_goesNow_6 : decode cX12_goesNow 6 = .ok (.invokevirtual 263, 3) := by decide +kernel
theorem dX12_goesNow_9 : decode cX12_goesNow 9 = .ok (.ireturn, 1) := by decide +kernel
theorem dX12_goes_0 : decode cX12_goes 0 = .ok (.iload_n 1, 1) := by decide +kernel
theorem dX12_goes_1 : decode cX12_goes 1 = .ok (.iconst 0, 1) := by decide +kernel
theorem dX12_goes_2 : decode cX12_goes 2 = .ok (.aload_n 0, 1) := by decide +kernel
theorem dX12_goes_3 : decode cX12_goes 3 = .ok (.getfield 251, 3) := by decide +kernel
theorem dX12_goes_6 : decode cX12_goes 6 = .ok (.iconst 1, 1) := by decide +kernel
theorem dX12_goes_7 : decode cX12_goes 7 = .ok (.isub, 1) := by decide +kernel
theorem dX12_goes_8 : decode cX12_goes 8 = .ok (.invokestatic 107, 3) := by decide +kernel
theorem dX12_goes_11 : decode cX12_goes 11 = .ok (.ifCond .eq 11, 3) := by decide +kernel
theorem dX12_goes_14 : decode cX12_goes 14 = .ok (.aload_n 0, 1) := by decide +kernel
theorem dX12_goes_15 : decode cX12_goes 15 = .ok (.iload_n 1, 1) := by decide +kernel
theorem dX12_goes_16 : decode cX12_goes 16 = .ok (.invokevirtual 266, 3) := by decide +kernel
theorem dX12_goes_19 : decode cX12_goes 19 = .ok (.goto 5, 3) := by decide +kernel
theorem dX12_goes_22 : decode cX12_goes 22 = .ok (.bipush (-99), 2) := by decide +kernel
theorem dX12_goes_24 : decode cX12_goes 24 = .ok (.ireturn, 1) := by decide +kernel
theorem dX12_greatest_0 : decode cX12_greatest 0 = .ok (.iconst 0, 1) := by decide +kernel
theorem dX12_greatest_1 : decode cX12_greatest 1 = .ok (.istore_n 1, 1) := by decide +kernel
theorem dX12_greatest_2 : decode cX12_greatest 2 = .ok (.iconst 0, 1) := by decide +kernel
theorem dX12_greatest_3 : decode cX12_greatest 3 = .ok (.istore_n 2, 1) := by decide +kernel
theorem dX12_greatest_4 : decode cX12_greatest 4 = .ok (.iload_n 2, 1) := by decide +kernel
theorem dX12_greatest_5 : decode cX12_greatest 5 = .ok (.aload_n 0, 1) := by decide +kernel
theorem dX12_greatest_6 : decode cX12_greatest 6 = .ok (.getfield 251, 3) := by decide +kernel
theorem dX12_greatest_9 : decode cX12_greatest 9 = .ok (.if_icmp .ge 29, 3) := by decide +kernel
theorem dX12_greatest_12 : decode cX12_greatest 12 = .ok (.aload_n 0, 1) := by decide +kernel
theorem dX12_greatest_13 : decode cX12_greatest 13 = .ok (.iload_n 2, 1) := by decide +kernel
theorem dX12_greatest_14 : decode cX12_greatest 14 = .ok (.invokevirtual 263, 3) := by decide +kernel
theorem dX12_greatest_17 : decode cX12_greatest 17 = .ok (.invokestatic 204, 3) := by decide +kernel
theorem dX12_greatest_20 : decode cX12_greatest 20 = .ok (.istore_n 3, 1) := by decide +kernel
theorem dX12_greatest_21 : decode cX12_greatest 21 = .ok (.iload_n 3, 1) := by decide +kernel
theorem dX12_greatest_22 : decode cX12_greatest 22 = .ok (.iload_n 1, 1) := by decide +kernel
theorem dX12_greatest_23 : decode cX12_greatest 23 = .ok (.if_icmp .le 7, 3) := by decide +kernel
theorem dX12_greatest_26 : decode cX12_greatest 26 = .ok (.iload_n 3, 1) := by decide +kernel
theorem dX12_greatest_27 : decode cX12_greatest 27 = .ok (.goto 4, 3) := by decide +kernel
theorem dX12_greatest_30 : decode cX12_greatest 30 = .ok (.iload_n 1, 1) := by decide +kernel
theorem dX12_greatest_31 : decode cX12_greatest 31 = .ok (.istore_n 1, 1) := by decide +kernel
theorem dX12_greatest_32 : decode cX12_greatest 32 = .ok (.iinc 2 1, 3) := by decide +kernel
theorem dX12_greatest_35 : decode cX12_greatest 35 = .ok (.goto (-31), 3) := by decide +kernel
theorem dX12_greatest_38 : decode cX12_greatest 38 = .ok (.iload_n 1, 1) := by decide +kernel
theorem dX12_greatest_39 : decode cX12_greatest 39 = .ok (.ireturn, 1) := by decide +kernel
theorem dX12_lookedNow_0 : decode cX12_lookedNow 0 = .ok (.aload_n 0, 1) := by decide +kernel
theorem dX12_lookedNow_1 : decode cX12_lookedNow 1 = .ok (.invokevirtual 260, 3) := by decide +kernel
theorem dX12_lookedNow_4 : decode cX12_lookedNow 4 = .ok (.aload_n 0, 1) := by decide +kernel
theorem dX12_lookedNow_5 : decode cX12_lookedNow 5 = .ok (.getfield 251, 3) := by decide +kernel
theorem dX12_lookedNow_8 : decode cX12_lookedNow 8 = .ok (.ifCond .eq 11, 3) := by decide +kernel
theorem dX12_lookedNow_11 : decode cX12_lookedNow 11 = .ok (.aload_n 0, 1) := by decide +kernel
theorem dX12_lookedNow_12 : decode cX12_lookedNow 12 = .ok (.getfield 254, 3) := by decide +kernel
theorem dX12_lookedNow_15 : decode cX12_lookedNow 15 = .ok (.iconst 2, 1) := by decide +kernel
theorem dX12_lookedNow_16 : decode cX12_lookedNow 16 = .ok (.if_icmp .ge 6, 3) := by decide +kernel
theorem dX12_lookedNow_19 : decode cX12_lookedNow 19 = .ok (.bipush (-3), 2) := by decide +kernel
theorem dX12_lookedNow_21 : decode cX12_lookedNow 21 = .ok (.ireturn, 1) := by decide +kernel
theorem dX12_lookedNow_22 : decode cX12_lookedNow 22 = .ok (.aload_n 0, 1) := by decide +kernel
theorem dX12_lookedNow_23 : decode cX12_lookedNow 23 = .ok (.invokevirtual 269, 3) := by decide +kernel
theorem dX12_lookedNow_26 : decode cX12_lookedNow 26 = .ok (.istore_n 1, 1) := by decide +kernel
theorem dX12_lookedNow_27 : decode cX12_lookedNow 27 = .ok (.iconst 1, 1) := by decide +kernel
theorem dX12_lookedNow_28 : decode cX12_lookedNow 28 = .ok (.istore_n 2, 1) := by decide +kernel
theorem dX12_lookedNow_29 : decode cX12_lookedNow 29 = .ok (.iconst 0, 1) := by decide +kernel
theorem dX12_lookedNow_30 : decode cX12_lookedNow 30 = .ok (.istore_n 3, 1) := by decide +kernel
theorem dX12_lookedNow_31 : decode cX12_lookedNow 31 = .ok (.iload_n 3, 1) := by decide +kernel
theorem dX12_lookedNow_32 : decode cX12_lookedNow 32 = .ok (.aload_n 0, 1) := by decide +kernel
theorem dX12_lookedNow_33 : decode cX12_lookedNow 33 = .ok (.getfield 254, 3) := by decide +kernel
theorem dX12_lookedNow_36 : decode cX12_lookedNow 36 = .ok (.if_icmp .ge 16, 3) := by decide +kernel
theorem dX12_lookedNow_39 : decode cX12_lookedNow 39 = .ok (.iload_n 2, 1) := by decide +kernel
theorem dX12_lookedNow_40 : decode cX12_lookedNow 40 = .ok (.aload_n 0, 1) := by decide +kernel
theorem dX12_lookedNow_41 : decode cX12_lookedNow 41 = .ok (.getfield 254, 3) := by decide +kernel
theorem dX12_lookedNow_44 : decode cX12_lookedNow 44 = .ok (.imul, 1) := by decide +kernel
theorem dX12_lookedNow_45 : decode cX12_lookedNow 45 = .ok (.istore_n 2, 1) := by decide +kernel
theorem dX12_lookedNow_46 : decode cX12_lookedNow 46 = .ok (.iinc 3 1, 3) := by decide +kernel
theorem dX12_lookedNow_49 : decode cX12_lookedNow 49 = .ok (.goto (-18), 3) := by decide +kernel
theorem dX12_lookedNow_52 : decode cX12_lookedNow 52 = .ok (.lconst 0, 1) := by decide +kernel
theorem dX12_lookedNow_53 : decode cX12_lookedNow 53 = .ok (.lstore_n 3, 1) := by decide +kernel
theorem dX12_lookedNow_54 : decode cX12_lookedNow 54 = .ok (.lconst 0, 1) := by decide +kernel
theorem dX12_lookedNow_55 : decode cX12_lookedNow 55 = .ok (.lstore 5, 2) := by decide +kernel
theorem dX12_lookedNow_57 : decode cX12_lookedNow 57 = .ok (.iconst 0, 1) := by decide +kernel
theorem dX12_lookedNow_58 : decode cX12_lookedNow 58 = .ok (.istore 7, 2) := by decide +kernel
theorem dX12_lookedNow_60 : decode cX12_lookedNow 60 = .ok (.iload 7, 2) := by decide +kernel
theorem dX12_lookedNow_62 : decode cX12_lookedNow 62 = .ok (.iload_n 2, 1) := by decide +kernel
theorem dX12_lookedNow_63 : decode cX12_lookedNow 63 = .ok (.if_icmp .ge 111, 3) := by decide +kernel
theorem dX12_lookedNow_66 : decode cX12_lookedNow 66 = .ok (.iload 7, 2) := by decide +kernel
theorem dX12_lookedNow_68 : decode cX12_lookedNow 68 = .ok (.istore 8, 2) := by decide +kernel
theorem dX12_lookedNow_70 : decode cX12_lookedNow 70 = .ok (.iconst 0, 1) := by decide +kernel
theorem dX12_lookedNow_71 : decode cX12_lookedNow 71 = .ok (.istore 9, 2) := by decide +kernel
theorem dX12_lookedNow_73 : decode cX12_lookedNow 73 = .ok (.iconst 0, 1) := by decide +kernel
theorem dX12_lookedNow_74 : decode cX12_lookedNow 74 = .ok (.istore 10, 2) := by decide +kernel
theorem dX12_lookedNow_76 : decode cX12_lookedNow 76 = .ok (.iload 10, 2) := by decide +kernel
theorem dX12_lookedNow_78 : decode cX12_lookedNow 78 = .ok (.aload_n 0, 1) := by decide +kernel
theorem dX12_lookedNow_79 : decode cX12_lookedNow 79 = .ok (.getfield 254, 3) := by decide +kernel
theorem dX12_lookedNow_82 : decode cX12_lookedNow 82 = .ok (.if_icmp .ge 51, 3) := by decide +kernel
theorem dX12_lookedNow_85 : decode cX12_lookedNow 85 = .ok (.aload_n 0, 1) := by decide +kernel
theorem dX12_lookedNow_86 : decode cX12_lookedNow 86 = .ok (.getfield 77, 3) := by decide +kernel
theorem dX12_lookedNow_89 : decode cX12_lookedNow 89 = .ok (.iload 10, 2) := by decide +kernel
theorem dX12_lookedNow_91 : decode cX12_lookedNow 91 = .ok (.aload_n 0, 1) := by decide +kernel
theorem dX12_lookedNow_92 : decode cX12_lookedNow 92 = .ok (.getfield 74, 3) := by decide +kernel
theorem dX12_lookedNow_95 : decode cX12_lookedNow 95 = .ok (.iload 8, 2) := by decide +kernel
theorem dX12_lookedNow_97 : decode cX12_lookedNow 97 = .ok (.aload_n 0, 1) := by decide +kernel
theorem dX12_lookedNow_98 : decode cX12_lookedNow 98 = .ok (.getfield 254, 3) := by decide +kernel
theorem dX12_lookedNow_101 : decode cX12_lookedNow 101 = .ok (.irem, 1) := by decide +kernel
theorem dX12_lookedNow_102 : decode cX12_lookedNow 102 = .ok (.iaload, 1) := by decide +kernel
theorem dX12_lookedNow_103 : decode cX12_lookedNow 103 = .ok (.iastore, 1) := by decide +kernel
theorem dX12_lookedNow_104 : decode cX12_lookedNow 104 = .ok (.iload 9, 2) := by decide +kernel
theorem dX12_lookedNow_106 : decode cX12_lookedNow 106 = .ok (.iconst 1, 1) := by decide +kernel
theorem dX12_lookedNow_107 : decode cX12_lookedNow 107 = .ok (.iload 8, 2) := by decide +kernel
theorem dX12_lookedNow_109 : decode cX12_lookedNow 109 = .ok (.aload_n 0, 1) := by decide +kernel
theorem dX12_lookedNow_110 : decode cX12_lookedNow 110 = .ok (.getfield 254, 3) := by decide +kernel
theorem dX12_lookedNow_113 : decode cX12_lookedNow 113 = .ok (.irem, 1) := by decide +kernel
theorem dX12_lookedNow_114 : decode cX12_lookedNow 114 = .ok (.ishl, 1) := by decide +kernel
theorem dX12_lookedNow_115 : decode cX12_lookedNow 115 = .ok (.ior, 1) := by decide +kernel
theorem dX12_lookedNow_116 : decode cX12_lookedNow 116 = .ok (.istore 9, 2) := by decide +kernel
theorem dX12_lookedNow_118 : decode cX12_lookedNow 118 = .ok (.iload 8, 2) := by decide +kernel
theorem dX12_lookedNow_120 : decode cX12_lookedNow 120 = .ok (.aload_n 0, 1) := by decide +kernel
theorem dX12_lookedNow_121 : decode cX12_lookedNow 121 = .ok (.getfield 254, 3) := by decide +kernel
theorem dX12_lookedNow_124 : decode cX12_lookedNow 124 = .ok (.idiv, 1) := by decide +kernel
theorem dX12_lookedNow_125 : decode cX12_lookedNow 125 = .ok (.istore 8, 2) := by decide +kernel
theorem dX12_lookedNow_127 : decode cX12_lookedNow 127 = .ok (.iinc 10 1, 3) := by decide +kernel
theorem dX12_lookedNow_130 : decode cX12_lookedNow 130 = .ok (.goto (-54), 3) := by decide +kernel
theorem dX12_lookedNow_133 : decode cX12_lookedNow 133 = .ok (.iload 9, 2) := by decide +kernel
theorem dX12_lookedNow_135 : decode cX12_lookedNow 135 = .ok (.iconst 1, 1) := by decide +kernel
theorem dX12_lookedNow_136 : decode cX12_lookedNow 136 = .ok (.aload_n 0, 1) := by decide +kernel
theorem dX12_lookedNow_137 : decode cX12_lookedNow 137 = .ok (.getfield 254, 3) := by decide +kernel
theorem dX12_lookedNow_140 : decode cX12_lookedNow 140 = .ok (.ishl, 1) := by decide +kernel
theorem dX12_lookedNow_141 : decode cX12_lookedNow 141 = .ok (.iconst 1, 1) := by decide +kernel
theorem dX12_lookedNow_142 : decode cX12_lookedNow 142 = .ok (.isub, 1) := by decide +kernel
theorem dX12_lookedNow_143 : decode cX12_lookedNow 143 = .ok (.if_icmp .ne 25, 3) := by decide +kernel
theorem dX12_lookedNow_146 : decode cX12_lookedNow 146 = .ok (.lload_n 3, 1) := by decide +kernel
theorem dX12_lookedNow_147 : decode cX12_lookedNow 147 = .ok (.lconst 1, 1) := by decide +kernel
theorem dX12_lookedNow_148 : decode cX12_lookedNow 148 = .ok (.ladd, 1) := by decide +kernel
theorem dX12_lookedNow_149 : decode cX12_lookedNow 149 = .ok (.lstore_n 3, 1) := by decide +kernel
theorem dX12_lookedNow_150 : decode cX12_lookedNow 150 = .ok (.lload 5, 2) := by decide +kernel
theorem dX12_lookedNow_152 : decode cX12_lookedNow 152 = .ok (.aload_n 0, 1) := by decide +kernel
theorem dX12_lookedNow_153 : decode cX12_lookedNow 153 = .ok (.invokevirtual 269, 3) := by decide +kernel
theorem dX12_lookedNow_156 : decode cX12_lookedNow 156 = .ok (.iload_n 1, 1) := by decide +kernel
theorem dX12_lookedNow_157 : decode cX12_lookedNow 157 = .ok (.if_icmp .lt 7, 3) := by decide +kernel
theorem dX12_lookedNow_160 : decode cX12_lookedNow 160 = .ok (.lconst 1, 1) := by decide +kernel
theorem dX12_lookedNow_161 : decode cX12_lookedNow 161 = .ok (.goto 4, 3) := by decide +kernel
theorem dX12_lookedNow_164 : decode cX12_lookedNow 164 = .ok (.lconst 0, 1) := by decide +kernel
theorem dX12_lookedNow_165 : decode cX12_lookedNow 165 = .ok (.ladd, 1) := by decide +kernel
theorem dX12_lookedNow_166 : decode cX12_lookedNow 166 = .ok (.lstore 5, 2) := by decide +kernel
theorem dX12_lookedNow_168 : decode cX12_lookedNow 168 = .ok (.iinc 7 1, 3) := by decide +kernel
theorem dX12_lookedNow_171 : decode cX12_lookedNow 171 = .ok (.goto (-111), 3) := by decide +kernel
theorem dX12_lookedNow_174 : decode cX12_lookedNow 174 = .ok (.ldc2_w 249, 3) := by decide +kernel
theorem dX12_lookedNow_177 : decode cX12_lookedNow 177 = .ok (.lload 5, 2) := by decide +kernel
theorem dX12_lookedNow_179 : decode cX12_lookedNow 179 = .ok (.lmul, 1) := by decide +kernel
theorem dX12_lookedNow_180 : decode cX12_lookedNow 180 = .ok (.lload_n 3, 1) := by decide +kernel
theorem dX12_lookedNow_181 : decode cX12_lookedNow 181 = .ok (.ldiv, 1) := by decide +kernel
theorem dX12_lookedNow_182 : decode cX12_lookedNow 182 = .ok (.l2i, 1) := by decide +kernel
theorem dX12_lookedNow_183 : decode cX12_lookedNow 183 = .ok (.ireturn, 1) := by decide +kernel
theorem dX12_looked_0 : decode cX12_looked 0 = .ok (.aload_n 0, 1) := by decide +kernel
theorem dX12_looked_1 : decode cX12_looked 1 = .ok (.invokevirtual 272, 3) := by decide +kernel
theorem dX12_looked_4 : decode cX12_looked 4 = .ok (.ireturn, 1) := by decide +kernel
theorem dX12_spanOf_0 : decode cX12_spanOf 0 = .ok (.iload_n 0, 1) := by decide +kernel
theorem dX12_spanOf_1 : decode cX12_spanOf 1 = .ok (.iconst 4, 1) := by decide +kernel
theorem dX12_spanOf_2 : decode cX12_spanOf 2 = .ok (.if_icmp .ge 7, 3) := by decide +kernel
theorem dX12_spanOf_5 : decode cX12_spanOf 5 = .ok (.iconst 0, 1) := by decide +kernel
theorem dX12_spanOf_6 : decode cX12_spanOf 6 = .ok (.goto 14, 3) := by decide +kernel
theorem dX12_spanOf_9 : decode cX12_spanOf 9 = .ok (.iload_n 0, 1) := by decide +kernel
theorem dX12_spanOf_10 : decode cX12_spanOf 10 = .ok (.bipush 7, 2) := by decide +kernel
theorem dX12_spanOf_12 : decode cX12_spanOf 12 = .ok (.if_icmp .ge 7, 3) := by decide +kernel
theorem dX12_spanOf_15 : decode cX12_spanOf 15 = .ok (.iconst 1, 1) := by decide +kernel
theorem dX12_spanOf_16 : decode cX12_spanOf 16 = .ok (.goto 4, 3) := by decide +kernel
theorem dX12_spanOf_19 : decode cX12_spanOf 19 = .ok (.iconst 2, 1) := by decide +kernel
theorem dX12_spanOf_20 : decode cX12_spanOf 20 = .ok (.ireturn, 1) := by decide +kernel
theorem dX12_story_0 : decode cX12_story 0 = .ok (.iload_n 1, 1) := by decide +kernel
theorem dX12_story_1 : decode cX12_story 1 = .ok (.iconst 0, 1) := by decide +kernel
theorem dX12_story_2 : decode cX12_story 2 = .ok (.iconst 2, 1) := by decide +kernel
theorem dX12_story_3 : decode cX12_story 3 = .ok (.invokestatic 107, 3) := by decide +kernel
theorem dX12_story_6 : decode cX12_story 6 = .ok (.ifCond .eq 22, 3) := by decide +kernel
theorem dX12_story_9 : decode cX12_story 9 = .ok (.iload_n 2, 1) := by decide +kernel
theorem dX12_story_10 : decode cX12_story 10 = .ok (.iconst 0, 1) := by decide +kernel
theorem dX12_story_11 : decode cX12_story 11 = .ok (.iconst 2, 1) := by decide +kernel
theorem dX12_story_12 : decode cX12_story 12 = .ok (.invokestatic 107, 3) := by decide +kernel
theorem dX12_story_15 : decode cX12_story 15 = .ok (.ifCond .eq 13, 3) := by decide +kernel
theorem dX12_story_18 : decode cX12_story 18 = .ok (.iload_n 3, 1) := by decide +kernel
theorem dX12_story_19 : decode cX12_story 19 = .ok (.iconst 1, 1) := by decide +kernel
theorem dX12_story_20 : decode cX12_story 20 = .ok (.bipush 15, 2) := by decide +kernel
theorem dX12_story_22 : decode cX12_story 22 = .ok (.invokestatic 107, 3) := by decide +kernel
theorem dX12_story_25 : decode cX12_story 25 = .ok (.ifCond .ne 6, 3) := by decide +kernel
theorem dX12_story_28 : decode cX12_story 28 = .ok (.bipush (-2), 2) := by decide +kernel
theorem dX12_story_30 : decode cX12_story 30 = .ok (.ireturn, 1) := by decide +kernel
theorem dX12_story_31 : decode cX12_story 31 = .ok (.aload_n 0, 1) := by decide +kernel
theorem dX12_story_32 : decode cX12_story 32 = .ok (.getfield 80, 3) := by decide +kernel
theorem dX12_story_35 : decode cX12_story 35 = .ok (.iconst 3, 1) := by decide +kernel
theorem dX12_story_36 : decode cX12_story 36 = .ok (.iload_n 1, 1) := by decide +kernel
theorem dX12_story_37 : decode cX12_story 37 = .ok (.imul, 1) := by decide +kernel
theorem dX12_story_38 : decode cX12_story 38 = .ok (.iload_n 2, 1) := by decide +kernel
theorem dX12_story_39 : decode cX12_story 39 = .ok (.iadd, 1) := by decide +kernel
theorem dX12_story_40 : decode cX12_story 40 = .ok (.iaload, 1) := by decide +kernel
theorem dX12_story_41 : decode cX12_story 41 = .ok (.istore 4, 2) := by decide +kernel
theorem dX12_story_43 : decode cX12_story 43 = .ok (.aload_n 0, 1) := by decide +kernel
theorem dX12_story_44 : decode cX12_story 44 = .ok (.getfield 80, 3) := by decide +kernel
theorem dX12_story_47 : decode cX12_story 47 = .ok (.iconst 3, 1) := by decide +kernel
theorem dX12_story_48 : decode cX12_story 48 = .ok (.iload_n 1, 1) := by decide +kernel
theorem dX12_story_49 : decode cX12_story 49 = .ok (.imul, 1) := by decide +kernel
theorem dX12_story_50 : decode cX12_story 50 = .ok (.iload_n 2, 1) := by decide +kernel
theorem dX12_story_51 : decode cX12_story 51 = .ok (.iadd, 1) := by decide +kernel
theorem dX12_story_52 : decode cX12_story 52 = .ok (.iload_n 3, 1) := by decide +kernel
theorem dX12_story_53 : decode cX12_story 53 = .ok (.iastore, 1) := by decide +kernel
theorem dX12_story_54 : decode cX12_story 54 = .ok (.iload 4, 2) := by decide +kernel
theorem dX12_story_56 : decode cX12_story 56 = .ok (.ireturn, 1) := by decide +kernel
theorem dX12_partOf_0 : decode cX12_partOf 0 = .ok (.lconst 1, 1) := by decide +kernel
theorem dX12_partOf_1 : decode cX12_partOf 1 = .ok (.lstore_n 3, 1) := by decide +kernel
theorem dX12_partOf_2 : decode cX12_partOf 2 = .ok (.iconst 0, 1) := by decide +kernel
theorem dX12_partOf_3 : decode cX12_partOf 3 = .ok (.istore 5, 2) := by decide +kernel
theorem dX12_partOf_5 : decode cX12_partOf 5 = .ok (.iload 5, 2) := by decide +kernel
theorem dX12_partOf_7 : decode cX12_partOf 7 = .ok (.aload_n 0, 1) := by decide +kernel
theorem dX12_partOf_8 : decode cX12_partOf 8 = .ok (.getfield 124, 3) := by decide +kernel
theorem dX12_partOf_11 : decode cX12_partOf 11 = .ok (.if_icmp .ge 66, 3) := by decide +kernel
theorem dX12_partOf_14 : decode cX12_partOf 14 = .ok (.aload_n 0, 1) := by decide +kernel
theorem dX12_partOf_15 : decode cX12_partOf 15 = .ok (.iload 5, 2) := by decide +kernel
theorem dX12_partOf_17 : decode cX12_partOf 17 = .ok (.iload_n 1, 1) := by decide +kernel
theorem dX12_partOf_18 : decode cX12_partOf 18 = .ok (.iconst 0, 1) := by decide +kernel
theorem dX12_partOf_19 : decode cX12_partOf 19 = .ok (.invokevirtual 141, 3) := by decide +kernel
theorem dX12_partOf_22 : decode cX12_partOf 22 = .ok (.ifCond .eq 49, 3) := by decide +kernel
theorem dX12_partOf_25 : decode cX12_partOf 25 = .ok (.aload_n 0, 1) := by decide +kernel
theorem dX12_partOf_26 : decode cX12_partOf 26 = .ok (.getfield 80, 3) := by decide +kernel
theorem dX12_partOf_29 : decode cX12_partOf 29 = .ok (.iconst 3, 1) := by decide +kernel
theorem dX12_partOf_30 : decode cX12_partOf 30 = .ok (.iload_n 2, 1) := by decide +kernel
theorem dX12_partOf_31 : decode cX12_partOf 31 = .ok (.imul, 1) := by decide +kernel
theorem dX12_partOf_32 : decode cX12_partOf 32 = .ok (.aload_n 0, 1) := by decide +kernel
theorem dX12_partOf_33 : decode cX12_partOf 33 = .ok (.getfield 16, 3) := by decide +kernel
theorem dX12_partOf_36 : decode cX12_partOf 36 = .ok (.iload 5, 2) := by decide +kernel
theorem dX12_partOf_38 : decode cX12_partOf 38 = .ok (.iaload, 1) := by decide +kernel
theorem dX12_partOf_39 : decode cX12_partOf 39 = .ok (.invokestatic 275, 3) := by decide +kernel
theorem dX12_partOf_42 : decode cX12_partOf 42 = .ok (.iadd, 1) := by decide +kernel
theorem dX12_partOf_43 : decode cX12_partOf 43 = .ok (.iaload, 1) := by decide +kernel
theorem dX12_partOf_44 : decode cX12_partOf 44 = .ok (.istore 6, 2) := by decide +kernel
theorem dX12_partOf_46 : decode cX12_partOf 46 = .ok (.lload_n 3, 1) := by decide +kernel
theorem dX12_partOf_47 : decode cX12_partOf 47 = .ok (.aload_n 0, 1) := by decide +kernel
theorem dX12_partOf_48 : decode cX12_partOf 48 = .ok (.getfield 19, 3) := by decide +kernel
theorem dX12_partOf_51 : decode cX12_partOf 51 = .ok (.iload 5, 2) := by decide +kernel
theorem dX12_partOf_53 : decode cX12_partOf 53 = .ok (.iaload, 1) := by decide +kernel
theorem dX12_partOf_54 : decode cX12_partOf 54 = .ok (.ifCond .ne 9, 3) := by decide +kernel
theorem dX12_partOf_57 : decode cX12_partOf 57 = .ok (.iload 6, 2) := by decide +kernel
theorem dX12_partOf_59 : decode cX12_partOf 59 = .ok (.i2l, 1) := by decide +kernel
theorem dX12_partOf_60 : decode cX12_partOf 60 = .ok (.goto 9, 3) := by decide +kernel
theorem dX12_partOf_63 : decode cX12_partOf 63 = .ok (.bipush 16, 2) := by decide +kernel
theorem dX12_partOf_65 : decode cX12_partOf 65 = .ok (.iload 6, 2) := by decide +kernel
theorem dX12_partOf_67 : decode cX12_partOf 67 = .ok (.isub, 1) := by decide +kernel
theorem dX12_partOf_68 : decode cX12_partOf 68 = .ok (.i2l, 1) := by decide +kernel
theorem dX12_partOf_69 : decode cX12_partOf 69 = .ok (.lmul, 1) := by decide +kernel
theorem dX12_partOf_70 : decode cX12_partOf 70 = .ok (.lstore_n 3, 1) := by decide +kernel
theorem dX12_partOf_71 : decode cX12_partOf 71 = .ok (.iinc 5 1, 3) := by decide +kernel
theorem dX12_partOf_74 : decode cX12_partOf 74 = .ok (.goto (-69), 3) := by decide +kernel
theorem dX12_partOf_77 : decode cX12_partOf 77 = .ok (.lload_n 3, 1) := by decide +kernel
theorem dX12_partOf_78 : decode cX12_partOf 78 = .ok (.lreturn, 1) := by decide +kernel
theorem dX12_odds_0 : decode cX12_odds 0 = .ok (.iload_n 1, 1) := by decide +kernel
theorem dX12_odds_1 : decode cX12_odds 1 = .ok (.invokestatic 154, 3) := by decide +kernel
theorem dX12_odds_4 : decode cX12_odds 4 = .ok (.ifCond .eq 21, 3) := by decide +kernel
theorem dX12_odds_7 : decode cX12_odds 7 = .ok (.iload_n 2, 1) := by decide +kernel
theorem dX12_odds_8 : decode cX12_odds 8 = .ok (.iconst 0, 1) := by decide +kernel
theorem dX12_odds_9 : decode cX12_odds 9 = .ok (.iconst 2, 1) := by decide +kernel
theorem dX12_odds_10 : decode cX12_odds 10 = .ok (.invokestatic 107, 3) := by decide +kernel
theorem dX12_odds_13 : decode cX12_odds 13 = .ok (.ifCond .eq 12, 3) := by decide +kernel
theorem dX12_odds_16 : decode cX12_odds 16 = .ok (.iload_n 3, 1) := by decide +kernel
theorem dX12_odds_17 : decode cX12_odds 17 = .ok (.iconst 0, 1) := by decide +kernel
theorem dX12_odds_18 : decode cX12_odds 18 = .ok (.iconst 1, 1) := by decide +kernel
theorem dX12_odds_19 : decode cX12_odds 19 = .ok (.invokestatic 107, 3) := by decide +kernel
theorem dX12_odds_22 : decode cX12_odds 22 = .ok (.ifCond .ne 9, 3) := by decide +kernel
theorem dX12_odds_25 : decode cX12_odds 25 = .ok (.bipush (-2), 2) := by decide +kernel
theorem dX12_odds_27 : decode cX12_odds 27 = .ok (.invokestatic 161, 3) := by decide +kernel
theorem dX12_odds_30 : decode cX12_odds 30 = .ok (.lreturn, 1) := by decide +kernel
theorem dX12_odds_31 : decode cX12_odds 31 = .ok (.aload_n 0, 1) := by decide +kernel
theorem dX12_odds_32 : decode cX12_odds 32 = .ok (.iload_n 1, 1) := by decide +kernel
theorem dX12_odds_33 : decode cX12_odds 33 = .ok (.iconst 0, 1) := by decide +kernel
theorem dX12_odds_34 : decode cX12_odds 34 = .ok (.invokevirtual 144, 3) := by decide +kernel
theorem dX12_odds_37 : decode cX12_odds 37 = .ok (.bipush 14, 2) := by decide +kernel
theorem dX12_odds_39 : decode cX12_odds 39 = .ok (.if_icmp .le 9, 3) := by decide +kernel
theorem dX12_odds_42 : decode cX12_odds 42 = .ok (.bipush (-4), 2) := by decide +kernel
theorem dX12_odds_44 : decode cX12_odds 44 = .ok (.invokestatic 161, 3) := by decide +kernel
theorem dX12_odds_47 : decode cX12_odds 47 = .ok (.lreturn, 1) := by decide +kernel
theorem dX12_odds_48 : decode cX12_odds 48 = .ok (.aload_n 0, 1) := by decide +kernel
theorem dX12_odds_49 : decode cX12_odds 49 = .ok (.iload_n 1, 1) := by decide +kernel
theorem dX12_odds_50 : decode cX12_odds 50 = .ok (.iload_n 2, 1) := by decide +kernel
theorem dX12_odds_51 : decode cX12_odds 51 = .ok (.invokevirtual 278, 3) := by decide +kernel
theorem dX12_odds_54 : decode cX12_odds 54 = .ok (.aload_n 0, 1) := by decide +kernel
theorem dX12_odds_55 : decode cX12_odds 55 = .ok (.iload_n 1, 1) := by decide +kernel
theorem dX12_odds_56 : decode cX12_odds 56 = .ok (.iconst 0, 1) := by decide +kernel
theorem dX12_odds_57 : decode cX12_odds 57 = .ok (.invokevirtual 278, 3) := by decide +kernel
theorem dX12_odds_60 : decode cX12_odds 60 = .ok (.aload_n 0, 1) := by decide +kernel
theorem dX12_odds_61 : decode cX12_odds 61 = .ok (.iload_n 1, 1) := by decide +kernel
theorem dX12_odds_62 : decode cX12_odds 62 = .ok (.iconst 1, 1) := by decide +kernel
theorem dX12_odds_63 : decode cX12_odds 63 = .ok (.invokevirtual 278, 3) := by decide +kernel
theorem dX12_odds_66 : decode cX12_odds 66 = .ok (.ladd, 1) := by decide +kernel
theorem dX12_odds_67 : decode cX12_odds 67 = .ok (.aload_n 0, 1) := by decide +kernel
theorem dX12_odds_68 : decode cX12_odds 68 = .ok (.iload_n 1, 1) := by decide +kernel
theorem dX12_odds_69 : decode cX12_odds 69 = .ok (.iconst 2, 1) := by decide +kernel
theorem dX12_odds_70 : decode cX12_odds 70 = .ok (.invokevirtual 278, 3) := by decide +kernel
theorem dX12_odds_73 : decode cX12_odds 73 = .ok (.ladd, 1) := by decide +kernel
theorem dX12_odds_74 : decode cX12_odds 74 = .ok (.iload_n 3, 1) := by decide +kernel
theorem dX12_odds_75 : decode cX12_odds 75 = .ok (.invokestatic 168, 3) := by decide +kernel
theorem dX12_odds_78 : decode cX12_odds 78 = .ok (.lreturn, 1) := by decide +kernel
theorem dX12_round_0 : decode cX12_round 0 = .ok (.iload_n 1, 1) := by decide +kernel
theorem dX12_round_1 : decode cX12_round 1 = .ok (.invokestatic 118, 3) := by decide +kernel
theorem dX12_round_4 : decode cX12_round 4 = .ok (.ifCond .eq 12, 3) := by decide +kernel
theorem dX12_round_7 : decode cX12_round 7 = .ok (.iload_n 2, 1) := by decide +kernel
theorem dX12_round_8 : decode cX12_round 8 = .ok (.iconst 0, 1) := by decide +kernel
theorem dX12_round_9 : decode cX12_round 9 = .ok (.iconst 1, 1) := by decide +kernel
theorem dX12_round_10 : decode cX12_round 10 = .ok (.invokestatic 107, 3) := by decide +kernel
theorem dX12_round_13 : decode cX12_round 13 = .ok (.ifCond .ne 6, 3) := by decide +kernel
theorem dX12_round_16 : decode cX12_round 16 = .ok (.bipush (-2), 2) := by decide +kernel
theorem dX12_round_18 : decode cX12_round 18 = .ok (.ireturn, 1) := by decide +kernel
theorem dX12_round_19 : decode cX12_round 19 = .ok (.aload_n 0, 1) := by decide +kernel
theorem dX12_round_20 : decode cX12_round 20 = .ok (.getfield 282, 3) := by decide +kernel
theorem dX12_round_23 : decode cX12_round 23 = .ok (.bipush 24, 2) := by decide +kernel
theorem dX12_round_25 : decode cX12_round 25 = .ok (.if_icmp .ne 6, 3) := by decide +kernel
theorem dX12_round_28 : decode cX12_round 28 = .ok (.bipush (-4), 2) := by decide +kernel
theorem dX12_round_30 : decode cX12_round 30 = .ok (.ireturn, 1) := by decide +kernel
theorem dX12_round_31 : decode cX12_round 31 = .ok (.aload_n 0, 1) := by decide +kernel
theorem dX12_round_32 : decode cX12_round 32 = .ok (.getfield 83, 3) := by decide +kernel
theorem dX12_round_35 : decode cX12_round 35 = .ok (.aload_n 0, 1) := by decide +kernel
theorem dX12_round_36 : decode cX12_round 36 = .ok (.getfield 282, 3) := by decide +kernel
theorem dX12_round_39 : decode cX12_round 39 = .ok (.iload_n 1, 1) := by decide +kernel
theorem dX12_round_40 : decode cX12_round 40 = .ok (.iastore, 1) := by decide +kernel
theorem dX12_round_41 : decode cX12_round 41 = .ok (.aload_n 0, 1) := by decide +kernel
theorem dX12_round_42 : decode cX12_round 42 = .ok (.getfield 86, 3) := by decide +kernel
theorem dX12_round_45 : decode cX12_round 45 = .ok (.aload_n 0, 1) := by decide +kernel
theorem dX12_round_46 : decode cX12_round 46 = .ok (.getfield 282, 3) := by decide +kernel
theorem dX12_round_49 : decode cX12_round 49 = .ok (.iload_n 2, 1) := by decide +kernel
theorem dX12_round_50 : decode cX12_round 50 = .ok (.iastore, 1) := by decide +kernel
theorem dX12_round_51 : decode cX12_round 51 = .ok (.aload_n 0, 1) := by decide +kernel
theorem dX12_round_52 : decode cX12_round 52 = .ok (.dup, 1) := by decide +kernel
theorem dX12_round_53 : decode cX12_round 53 = .ok (.getfield 282, 3) := by decide +kernel
theorem dX12_round_56 : decode cX12_round 56 = .ok (.iconst 1, 1) := by decide +kernel
theorem dX12_round_57 : decode cX12_round 57 = .ok (.iadd, 1) := by decide +kernel
theorem dX12_round_58 : decode cX12_round 58 = .ok (.putfield 282, 3) := by decide +kernel
theorem dX12_round_61 : decode cX12_round 61 = .ok (.aload_n 0, 1) := by decide +kernel
theorem dX12_round_62 : decode cX12_round 62 = .ok (.getfield 282, 3) := by decide +kernel
theorem dX12_round_65 : decode cX12_round 65 = .ok (.ireturn, 1) := by decide +kernel
theorem dX12_forget_0 : decode cX12_forget 0 = .ok (.aload_n 0, 1) := by decide +kernel
theorem dX12_forget_1 : decode cX12_forget 1 = .ok (.getfield 282, 3) := by decide +kernel
theorem dX12_forget_4 : decode cX12_forget 4 = .ok (.istore_n 1, 1) := by decide +kernel
theorem dX12_forget_5 : decode cX12_forget 5 = .ok (.aload_n 0, 1) := by decide +kernel
theorem dX12_forget_6 : decode cX12_forget 6 = .ok (.iconst 0, 1) := by decide +kernel
theorem dX12_forget_7 : decode cX12_forget 7 = .ok (.putfield 282, 3) := by decide +kernel
theorem dX12_forget_10 : decode cX12_forget 10 = .ok (.iload_n 1, 1) := by decide +kernel
theorem dX12_forget_11 : decode cX12_forget 11 = .ok (.ireturn, 1) := by decide +kernel
theorem dX12_missesOf_0 : decode cX12_missesOf 0 = .ok (.iconst 0, 1) := by decide +kernel
theorem dX12_missesOf_1 : decode cX12_missesOf 1 = .ok (.istore_n 3, 1) := by decide +kernel
theorem dX12_missesOf_2 : decode cX12_missesOf 2 = .ok (.iconst 0, 1) := by decide +kernel
theorem dX12_missesOf_3 : decode cX12_missesOf 3 = .ok (.istore 4, 2) := by decide +kernel
theorem dX12_missesOf_5 : decode cX12_missesOf 5 = .ok (.iload 4, 2) := by decide +kernel
theorem dX12_missesOf_7 : decode cX12_missesOf 7 = .ok (.iconst 1, 1) := by decide +kernel
theorem dX12_missesOf_8 : decode cX12_missesOf 8 = .ok (.iadd, 1) := by decide +kernel
theorem dX12_missesOf_9 : decode cX12_missesOf 9 = .ok (.aload_n 0, 1) := by decide +kernel
theorem dX12_missesOf_10 : decode cX12_missesOf 10 = .ok (.getfield 282, 3) := by decide +kernel
theorem dX12_missesOf_13 : decode cX12_missesOf 13 = .ok (.if_icmp .ge 85, 3) := by decide +kernel
theorem dX12_missesOf_16 : decode cX12_missesOf 16 = .ok (.aload_n 0, 1) := by decide +kernel
theorem dX12_missesOf_17 : decode cX12_missesOf 17 = .ok (.getfield 86, 3) := by decide +kernel
theorem dX12_missesOf_20 : decode cX12_missesOf 20 = .ok (.iload 4, 2) := by decide +kernel
theorem dX12_missesOf_22 : decode cX12_missesOf 22 = .ok (.iaload, 1) := by decide +kernel
theorem dX12_missesOf_23 : decode cX12_missesOf 23 = .ok (.ifCond .ne 15, 3) := by decide +kernel
theorem dX12_missesOf_26 : decode cX12_missesOf 26 = .ok (.aload_n 0, 1) := by decide +kernel
theorem dX12_missesOf_27 : decode cX12_missesOf 27 = .ok (.getfield 83, 3) := by decide +kernel
theorem dX12_missesOf_30 : decode cX12_missesOf 30 = .ok (.iload 4, 2) := by decide +kernel
theorem dX12_missesOf_32 : decode cX12_missesOf 32 = .ok (.iaload, 1) := by decide +kernel
theorem dX12_missesOf_33 : decode cX12_missesOf 33 = .ok (.iload_n 1, 1) := by decide +kernel
theorem dX12_missesOf_34 : decode cX12_missesOf 34 = .ok (.iadd, 1) := by decide +kernel
theorem dX12_missesOf_35 : decode cX12_missesOf 35 = .ok (.goto 12, 3) := by decide +kernel
theorem dX12_missesOf_38 : decode cX12_missesOf 38 = .ok (.aload_n 0, 1) := by decide +kernel
theorem dX12_missesOf_39 : decode cX12_missesOf 39 = .ok (.getfield 83, 3) := by decide +kernel
theorem dX12_missesOf_42 : decode cX12_missesOf 42 = .ok (.iload 4, 2) := by decide +kernel
theorem dX12_missesOf_44 : decode cX12_missesOf 44 = .ok (.iaload, 1) := by decide +kernel
theorem dX12_missesOf_45 : decode cX12_missesOf 45 = .ok (.iload_n 2, 1) := by decide +kernel
theorem dX12_missesOf_46 : decode cX12_missesOf 46 = .ok (.isub, 1) := by decide +kernel
theorem dX12_missesOf_47 : decode cX12_missesOf 47 = .ok (.istore 5, 2) := by decide +kernel
theorem dX12_missesOf_49 : decode cX12_missesOf 49 = .ok (.iload 5, 2) := by decide +kernel
theorem dX12_missesOf_51 : decode cX12_missesOf 51 = .ok (.ifCond .ge 7, 3) := by decide +kernel
theorem dX12_missesOf_54 : decode cX12_missesOf 54 = .ok (.iconst 0, 1) := by decide +kernel
theorem dX12_missesOf_55 : decode cX12_missesOf 55 = .ok (.goto 17, 3) := by decide +kernel
theorem dX12_missesOf_58 : decode cX12_missesOf 58 = .ok (.iload 5, 2) := by decide +kernel
theorem dX12_missesOf_60 : decode cX12_missesOf 60 = .ok (.bipush 10, 2) := by decide +kernel
theorem dX12_missesOf_62 : decode cX12_missesOf 62 = .ok (.if_icmp .le 8, 3) := by decide +kernel
theorem dX12_missesOf_65 : decode cX12_missesOf 65 = .ok (.bipush 10, 2) := by decide +kernel
theorem dX12_missesOf_67 : decode cX12_missesOf 67 = .ok (.goto 5, 3) := by decide +kernel
theorem dX12_missesOf_70 : decode cX12_missesOf 70 = .ok (.iload 5, 2) := by decide +kernel
theorem dX12_missesOf_72 : decode cX12_missesOf 72 = .ok (.istore 5, 2) := by decide +kernel
theorem dX12_missesOf_74 : decode cX12_missesOf 74 = .ok (.iload_n 3, 1) := by decide +kernel
theorem dX12_missesOf_75 : decode cX12_missesOf 75 = .ok (.aload_n 0, 1) := by decide +kernel
theorem dX12_missesOf_76 : decode cX12_missesOf 76 = .ok (.getfield 83, 3) := by decide +kernel
theorem dX12_missesOf_79 : decode cX12_missesOf 79 = .ok (.iload 4, 2) := by decide +kernel
theorem dX12_missesOf_81 : decode cX12_missesOf 81 = .ok (.iconst 1, 1) := by decide +kernel
theorem dX12_missesOf_82 : decode cX12_missesOf 82 = .ok (.iadd, 1) := by decide +kernel
theorem dX12_missesOf_83 : decode cX12_missesOf 83 = .ok (.iaload, 1) := by decide +kernel
theorem dX12_missesOf_84 : decode cX12_missesOf 84 = .ok (.iload 5, 2) := by decide +kernel
theorem dX12_missesOf_86 : decode cX12_missesOf 86 = .ok (.isub, 1) := by decide +kernel
theorem dX12_missesOf_87 : decode cX12_missesOf 87 = .ok (.invokestatic 204, 3) := by decide +kernel
theorem dX12_missesOf_90 : decode cX12_missesOf 90 = .ok (.iadd, 1) := by decide +kernel
theorem dX12_missesOf_91 : decode cX12_missesOf 91 = .ok (.istore_n 3, 1) := by decide +kernel
theorem dX12_missesOf_92 : decode cX12_missesOf 92 = .ok (.iinc 4 1, 3) := by decide +kernel
theorem dX12_missesOf_95 : decode cX12_missesOf 95 = .ok (.goto (-90), 3) := by decide +kernel
theorem dX12_missesOf_98 : decode cX12_missesOf 98 = .ok (.iload_n 3, 1) := by decide +kernel
theorem dX12_missesOf_99 : decode cX12_missesOf 99 = .ok (.ireturn, 1) := by decide +kernel
theorem dX12_misses_0 : decode cX12_misses 0 = .ok (.iload_n 1, 1) := by decide +kernel
theorem dX12_misses_1 : decode cX12_misses 1 = .ok (.iconst 0, 1) := by decide +kernel
theorem dX12_misses_2 : decode cX12_misses 2 = .ok (.iconst 4, 1) := by decide +kernel
theorem dX12_misses_3 : decode cX12_misses 3 = .ok (.invokestatic 107, 3) := by decide +kernel
theorem dX12_misses_6 : decode cX12_misses 6 = .ok (.ifCond .eq 21, 3) := by decide +kernel
theorem dX12_misses_9 : decode cX12_misses 9 = .ok (.iload_n 2, 1) := by decide +kernel
theorem dX12_misses_10 : decode cX12_misses 10 = .ok (.iconst 0, 1) := by decide +kernel
theorem dX12_misses_11 : decode cX12_misses 11 = .ok (.iconst 4, 1) := by decide +kernel
theorem dX12_misses_12 : decode cX12_misses 12 = .ok (.invokestatic 107, 3) := by decide +kernel
theorem dX12_misses_15 : decode cX12_misses 15 = .ok (.ifCond .eq 12, 3) := by decide +kernel
theorem dX12_misses_18 : decode cX12_misses 18 = .ok (.aload_n 0, 1) := by decide +kernel
theorem dX12_misses_19 : decode cX12_misses 19 = .ok (.iload_n 1, 1) := by decide +kernel
theorem dX12_misses_20 : decode cX12_misses 20 = .ok (.iload_n 2, 1) := by decide +kernel
theorem dX12_misses_21 : decode cX12_misses 21 = .ok (.invokevirtual 285, 3) := by decide +kernel
theorem dX12_misses_24 : decode cX12_misses 24 = .ok (.goto 5, 3) := by decide +kernel
theorem dX12_misses_27 : decode cX12_misses 27 = .ok (.bipush (-2), 2) := by decide +kernel
theorem dX12_misses_29 : decode cX12_misses 29 = .ok (.ireturn, 1) := by decide +kernel
theorem dX12_gotNow_0 : decode cX12_gotNow 0 = .ok (.iconst 0, 1) := by decide +kernel
theorem dX12_gotNow_1 : decode cX12_gotNow 1 = .ok (.istore_n 1, 1) := by decide +kernel
theorem dX12_gotNow_2 : decode cX12_gotNow 2 = .ok (.iconst 0, 1) := by decide +kernel
theorem dX12_gotNow_3 : decode cX12_gotNow 3 = .ok (.istore_n 2, 1) := by decide +kernel
theorem dX12_gotNow_4 : decode cX12_gotNow 4 = .ok (.iload_n 2, 1) := by decide +kernel
theorem dX12_gotNow_5 : decode cX12_gotNow 5 = .ok (.aload_n 0, 1) := by decide +kernel
theorem dX12_gotNow_6 : decode cX12_gotNow 6 = .ok (.getfield 282, 3) := by decide +kernel
theorem dX12_gotNow_9 : decode cX12_gotNow 9 = .ok (.if_icmp .ge 35, 3) := by decide +kernel
theorem dX12_gotNow_12 : decode cX12_gotNow 12 = .ok (.iload_n 1, 1) := by decide +kernel
theorem dX12_gotNow_13 : decode cX12_gotNow 13 = .ok (.aload_n 0, 1) := by decide +kernel
theorem dX12_gotNow_14 : decode cX12_gotNow 14 = .ok (.getfield 86, 3) := by decide +kernel
theorem dX12_gotNow_17 : decode cX12_gotNow 17 = .ok (.iload_n 2, 1) := by decide +kernel
theorem dX12_gotNow_18 : decode cX12_gotNow 18 = .ok (.iaload, 1) := by decide +kernel
theorem dX12_gotNow_19 : decode cX12_gotNow 19 = .ok (.iconst 1, 1) := by decide +kernel
theorem dX12_gotNow_20 : decode cX12_gotNow 20 = .ok (.if_icmp .ne 15, 3) := by decide +kernel
theorem dX12_gotNow_23 : decode cX12_gotNow 23 = .ok (.bipush 10, 2) := by decide +kernel
theorem dX12_gotNow_25 : decode cX12_gotNow 25 = .ok (.aload_n 0, 1) := by decide +kernel
theorem dX12_gotNow_26 : decode cX12_gotNow 26 = .ok (.getfield 83, 3) := by decide +kernel
theorem dX12_gotNow_29 : decode cX12_gotNow 29 = .ok (.iload_n 2, 1) := by decide +kernel
theorem dX12_gotNow_30 : decode cX12_gotNow 30 = .ok (.iaload, 1) := by decide +kernel
theorem dX12_gotNow_31 : decode cX12_gotNow 31 = .ok (.isub, 1) := by decide +kernel
theorem dX12_gotNow_32 : decode cX12_gotNow 32 = .ok (.goto 4, 3) := by decide +kernel
theorem dX12_gotNow_35 : decode cX12_gotNow 35 = .ok (.iconst 0, 1) := by decide +kernel
theorem dX12_gotNow_36 : decode cX12_gotNow 36 = .ok (.iadd, 1) := by decide +kernel
theorem dX12_gotNow_37 : decode cX12_gotNow 37 = .ok (.istore_n 1, 1) := by decide +kernel
theorem dX12_gotNow_38 : decode cX12_gotNow 38 = .ok (.iinc 2 1, 3) := by decide +kernel
theorem dX12_gotNow_41 : decode cX12_gotNow 41 = .ok (.goto (-37), 3) := by decide +kernel
theorem dX12_gotNow_44 : decode cX12_gotNow 44 = .ok (.iload_n 1, 1) := by decide +kernel
theorem dX12_gotNow_45 : decode cX12_gotNow 45 = .ok (.ireturn, 1) := by decide +kernel
theorem dX12_couldNow_0 : decode cX12_couldNow 0 = .ok (.iconst 0, 1) := by decide +kernel
theorem dX12_couldNow_1 : decode cX12_couldNow 1 = .ok (.istore_n 1, 1) := by decide +kernel
theorem dX12_couldNow_2 : decode cX12_couldNow 2 = .ok (.iconst 0, 1) := by decide +kernel
theorem dX12_couldNow_3 : decode cX12_couldNow 3 = .ok (.istore_n 2, 1) := by decide +kernel
theorem dX12_couldNow_4 : decode cX12_couldNow 4 = .ok (.iload_n 2, 1) := by decide +kernel
theorem dX12_couldNow_5 : decode cX12_couldNow 5 = .ok (.bipush 11, 2) := by decide +kernel
theorem dX12_couldNow_7 : decode cX12_couldNow 7 = .ok (.if_icmp .ge 73, 3) := by decide +kernel
theorem dX12_couldNow_10 : decode cX12_couldNow 10 = .ok (.iconst 0, 1) := by decide +kernel
theorem dX12_couldNow_11 : decode cX12_couldNow 11 = .ok (.istore_n 3, 1) := by decide +kernel
theorem dX12_couldNow_12 : decode cX12_couldNow 12 = .ok (.iconst 0, 1) := by decide +kernel
theorem dX12_couldNow_13 : decode cX12_couldNow 13 = .ok (.istore 4, 2) := by decide +kernel
theorem dX12_couldNow_15 : decode cX12_couldNow 15 = .ok (.iload 4, 2) := by decide +kernel
theorem dX12_couldNow_17 : decode cX12_couldNow 17 = .ok (.aload_n 0, 1) := by decide +kernel
theorem dX12_couldNow_18 : decode cX12_couldNow 18 = .ok (.getfield 282, 3) := by decide +kernel
theorem dX12_couldNow_21 : decode cX12_couldNow 21 = .ok (.if_icmp .ge 42, 3) := by decide +kernel
theorem dX12_couldNow_24 : decode cX12_couldNow 24 = .ok (.iload_n 3, 1) := by decide +kernel
theorem dX12_couldNow_25 : decode cX12_couldNow 25 = .ok (.aload_n 0, 1) := by decide +kernel
theorem dX12_couldNow_26 : decode cX12_couldNow 26 = .ok (.getfield 86, 3) := by decide +kernel
theorem dX12_couldNow_29 : decode cX12_couldNow 29 = .ok (.iload 4, 2) := by decide +kernel
theorem dX12_couldNow_31 : decode cX12_couldNow 31 = .ok (.iaload, 1) := by decide +kernel
theorem dX12_couldNow_32 : decode cX12_couldNow 32 = .ok (.iconst 1, 1) := by decide +kernel
theorem dX12_couldNow_33 : decode cX12_couldNow 33 = .ok (.if_icmp .ne 21, 3) := by decide +kernel
theorem dX12_couldNow_36 : decode cX12_couldNow 36 = .ok (.aload_n 0, 1) := by decide +kernel
theorem dX12_couldNow_37 : decode cX12_couldNow 37 = .ok (.getfield 83, 3) := by decide +kernel
theorem dX12_couldNow_40 : decode cX12_couldNow 40 = .ok (.iload 4, 2) := by decide +kernel
theorem dX12_couldNow_42 : decode cX12_couldNow 42 = .ok (.iaload, 1) := by decide +kernel
theorem dX12_couldNow_43 : decode cX12_couldNow 43 = .ok (.iload_n 2, 1) := by decide +kernel
theorem dX12_couldNow_44 : decode cX12_couldNow 44 = .ok (.if_icmp .gt 10, 3) := by decide +kernel
theorem dX12_couldNow_47 : decode cX12_couldNow 47 = .ok (.bipush 10, 2) := by decide +kernel
theorem dX12_couldNow_49 : decode cX12_couldNow 49 = .ok (.iload_n 2, 1) := by decide +kernel
theorem dX12_couldNow_50 : decode cX12_couldNow 50 = .ok (.isub, 1) := by decide +kernel
theorem dX12_couldNow_51 : decode cX12_couldNow 51 = .ok (.goto 4, 3) := by decide +kernel
theorem dX12_couldNow_54 : decode cX12_couldNow 54 = .ok (.iconst 0, 1) := by decide +kernel
theorem dX12_couldNow_55 : decode cX12_couldNow 55 = .ok (.iadd, 1) := by decide +kernel
theorem dX12_couldNow_56 : decode cX12_couldNow 56 = .ok (.istore_n 3, 1) := by decide +kernel
theorem dX12_couldNow_57 : decode cX12_couldNow 57 = .ok (.iinc 4 1, 3) := by decide +kernel
theorem dX12_couldNow_60 : decode cX12_couldNow 60 = .ok (.goto (-45), 3) := by decide +kernel
theorem dX12_couldNow_63 : decode cX12_couldNow 63 = .ok (.iload_n 3, 1) := by decide +kernel
theorem dX12_couldNow_64 : decode cX12_couldNow 64 = .ok (.iload_n 1, 1) := by decide +kernel
theorem dX12_couldNow_65 : decode cX12_couldNow 65 = .ok (.if_icmp .le 7, 3) := by decide +kernel
theorem dX12_couldNow_68 : decode cX12_couldNow 68 = .ok (.iload_n 3, 1) := by decide +kernel
theorem dX12_couldNow_69 : decode cX12_couldNow 69 = .ok (.goto 4, 3) := by decide +kernel
theorem dX12_couldNow_72 : decode cX12_couldNow 72 = .ok (.iload_n 1, 1) := by decide +kernel
theorem dX12_couldNow_73 : decode cX12_couldNow 73 = .ok (.istore_n 1, 1) := by decide +kernel
theorem dX12_couldNow_74 : decode cX12_couldNow 74 = .ok (.iinc 2 1, 3) := by decide +kernel
theorem dX12_couldNow_77 : decode cX12_couldNow 77 = .ok (.goto (-73), 3) := by decide +kernel
theorem dX12_couldNow_80 : decode cX12_couldNow 80 = .ok (.iload_n 1, 1) := by decide +kernel
theorem dX12_couldNow_81 : decode cX12_couldNow 81 = .ok (.ireturn, 1) := by decide +kernel
theorem dX12_learntNow_0 : decode cX12_learntNow 0 = .ok (.iload_n 1, 1) := by decide +kernel
theorem dX12_learntNow_1 : decode cX12_learntNow 1 = .ok (.iconst 2, 1) := by decide +kernel
theorem dX12_learntNow_2 : decode cX12_learntNow 2 = .ok (.if_icmp .le 20, 3) := by decide +kernel
theorem dX12_learntNow_5 : decode cX12_learntNow 5 = .ok (.iload_n 1, 1) := by decide +kernel
theorem dX12_learntNow_6 : decode cX12_learntNow 6 = .ok (.iconst 3, 1) := by decide +kernel
theorem dX12_learntNow_7 : decode cX12_learntNow 7 = .ok (.if_icmp .ne 10, 3) := by decide +kernel
theorem dX12_learntNow_10 : decode cX12_learntNow 10 = .ok (.aload_n 0, 1) := by decide +kernel
theorem dX12_learntNow_11 : decode cX12_learntNow 11 = .ok (.invokevirtual 288, 3) := by decide +kernel
theorem dX12_learntNow_14 : decode cX12_learntNow 14 = .ok (.goto 7, 3) := by decide +kernel
theorem dX12_learntNow_17 : decode cX12_learntNow 17 = .ok (.aload_n 0, 1) := by decide +kernel
theorem dX12_learntNow_18 : decode cX12_learntNow 18 = .ok (.invokevirtual 291, 3) := by decide +kernel
theorem dX12_learntNow_21 : decode cX12_learntNow 21 = .ok (.ireturn, 1) := by decide +kernel
theorem dX12_learntNow_22 : decode cX12_learntNow 22 = .ok (.aload_n 0, 1) := by decide +kernel
theorem dX12_learntNow_23 : decode cX12_learntNow 23 = .ok (.getfield 282, 3) := by decide +kernel
theorem dX12_learntNow_26 : decode cX12_learntNow 26 = .ok (.iconst 2, 1) := by decide +kernel
theorem dX12_learntNow_27 : decode cX12_learntNow 27 = .ok (.if_icmp .ge 6, 3) := by decide +kernel
theorem dX12_learntNow_30 : decode cX12_learntNow 30 = .ok (.bipush (-3), 2) := by decide +kernel
theorem dX12_learntNow_32 : decode cX12_learntNow 32 = .ok (.ireturn, 1) := by decide +kernel
theorem dX12_learntNow_33 : decode cX12_learntNow 33 = .ok (.iconst 0, 1) := by decide +kernel
theorem dX12_learntNow_34 : decode cX12_learntNow 34 = .ok (.istore_n 2, 1) := by decide +kernel
theorem dX12_learntNow_35 : decode cX12_learntNow 35 = .ok (.aload_n 0, 1) := by decide +kernel
theorem dX12_learntNow_36 : decode cX12_learntNow 36 = .ok (.iconst 0, 1) := by decide +kernel
theorem dX12_learntNow_37 : decode cX12_learntNow 37 = .ok (.iconst 0, 1) := by decide +kernel
theorem dX12_learntNow_38 : decode cX12_learntNow 38 = .ok (.invokevirtual 285, 3) := by decide +kernel
theorem dX12_learntNow_41 : decode cX12_learntNow 41 = .ok (.istore_n 3, 1) := by decide +kernel
theorem dX12_learntNow_42 : decode cX12_learntNow 42 = .ok (.iconst 1, 1) := by decide +kernel
theorem dX12_learntNow_43 : decode cX12_learntNow 43 = .ok (.istore 4, 2) := by decide +kernel
theorem dX12_learntNow_45 : decode cX12_learntNow 45 = .ok (.iload 4, 2) := by decide +kernel
theorem dX12_learntNow_47 : decode cX12_learntNow 47 = .ok (.bipush 25, 2) := by decide +kernel
theorem dX12_learntNow_49 : decode cX12_learntNow 49 = .ok (.if_icmp .ge 49, 3) := by decide +kernel
theorem dX12_learntNow_52 : decode cX12_learntNow 52 = .ok (.aload_n 0, 1) := by decide +kernel
theorem dX12_learntNow_53 : decode cX12_learntNow 53 = .ok (.iload 4, 2) := by decide +kernel
theorem dX12_learntNow_55 : decode cX12_learntNow 55 = .ok (.iconst 5, 1) := by decide +kernel
theorem dX12_learntNow_56 : decode cX12_learntNow 56 = .ok (.idiv, 1) := by decide +kernel
theorem dX12_learntNow_57 : decode cX12_learntNow 57 = .ok (.iload 4, 2) := by decide +kernel
theorem dX12_learntNow_59 : decode cX12_learntNow 59 = .ok (.iconst 5, 1) := by decide +kernel
theorem dX12_learntNow_60 : decode cX12_learntNow 60 = .ok (.irem, 1) := by decide +kernel
theorem dX12_learntNow_61 : decode cX12_learntNow 61 = .ok (.invokevirtual 285, 3) := by decide +kernel
theorem dX12_learntNow_64 : decode cX12_learntNow 64 = .ok (.istore 5, 2) := by decide +kernel
theorem dX12_learntNow_66 : decode cX12_learntNow 66 = .ok (.iload 5, 2) := by decide +kernel
theorem dX12_learntNow_68 : decode cX12_learntNow 68 = .ok (.iload_n 3, 1) := by decide +kernel
theorem dX12_learntNow_69 : decode cX12_learntNow 69 = .ok (.if_icmp .ge 8, 3) := by decide +kernel
theorem dX12_learntNow_72 : decode cX12_learntNow 72 = .ok (.iload 4, 2) := by decide +kernel
theorem dX12_learntNow_74 : decode cX12_learntNow 74 = .ok (.goto 4, 3) := by decide +kernel
theorem dX12_learntNow_77 : decode cX12_learntNow 77 = .ok (.iload_n 2, 1) := by decide +kernel
theorem dX12_learntNow_78 : decode cX12_learntNow 78 = .ok (.istore_n 2, 1) := by decide +kernel
theorem dX12_learntNow_79 : decode cX12_learntNow 79 = .ok (.iload 5, 2) := by decide +kernel
theorem dX12_learntNow_81 : decode cX12_learntNow 81 = .ok (.iload_n 3, 1) := by decide +kernel
theorem dX12_learntNow_82 : decode cX12_learntNow 82 = .ok (.if_icmp .ge 8, 3) := by decide +kernel
theorem dX12_learntNow_85 : decode cX12_learntNow 85 = .ok (.iload 5, 2) := by decide +kernel
theorem dX12_learntNow_87 : decode cX12_learntNow 87 = .ok (.goto 4, 3) := by decide +kernel
theorem dX12_learntNow_90 : decode cX12_learntNow 90 = .ok (.iload_n 3, 1) := by decide +kernel
theorem dX12_learntNow_91 : decode cX12_learntNow 91 = .ok (.istore_n 3, 1) := by decide +kernel
theorem dX12_learntNow_92 : decode cX12_learntNow 92 = .ok (.iinc 4 1, 3) := by decide +kernel
theorem dX12_learntNow_95 : decode cX12_learntNow 95 = .ok (.goto (-50), 3) := by decide +kernel
theorem dX12_learntNow_98 : decode cX12_learntNow 98 = .ok (.iload_n 1, 1) := by decide +kernel
theorem dX12_learntNow_99 : decode cX12_learntNow 99 = .ok (.ifCond .ne 9, 3) := by decide +kernel
theorem dX12_learntNow_102 : decode cX12_learntNow 102 = .ok (.iload_n 2, 1) := by decide +kernel
theorem dX12_learntNow_103 : decode cX12_learntNow 103 = .ok (.iconst 5, 1) := by decide +kernel
theorem dX12_learntNow_104 : decode cX12_learntNow 104 = .ok (.idiv, 1) := by decide +kernel
theorem dX12_learntNow_105 : decode cX12_learntNow 105 = .ok (.goto 15, 3) := by decide +kernel
theorem dX12_learntNow_108 : decode cX12_learntNow 108 = .ok (.iload_n 1, 1) := by decide +kernel
theorem dX12_learntNow_109 : decode cX12_learntNow 109 = .ok (.iconst 1, 1) := by decide +kernel
theorem dX12_learntNow_110 : decode cX12_learntNow 110 = .ok (.if_icmp .ne 9, 3) := by decide +kernel
theorem dX12_learntNow_113 : decode cX12_learntNow 113 = .ok (.iload_n 2, 1) := by decide +kernel
theorem dX12_learntNow_114 : decode cX12_learntNow 114 = .ok (.iconst 5, 1) := by decide +kernel
theorem dX12_learntNow_115 : decode cX12_learntNow 115 = .ok (.irem, 1) := by decide +kernel
theorem dX12_learntNow_116 : decode cX12_learntNow 116 = .ok (.goto 4, 3) := by decide +kernel
theorem dX12_learntNow_119 : decode cX12_learntNow 119 = .ok (.iload_n 3, 1) := by decide +kernel
theorem dX12_learntNow_120 : decode cX12_learntNow 120 = .ok (.ireturn, 1) := by decide +kernel
theorem dX12_learnt_0 : decode cX12_learnt 0 = .ok (.iload_n 1, 1) := by decide +kernel
theorem dX12_learnt_1 : decode cX12_learnt 1 = .ok (.iconst 0, 1) := by decide +kernel
theorem dX12_learnt_2 : decode cX12_learnt 2 = .ok (.iconst 4, 1) := by decide +kernel
theorem dX12_learnt_3 : decode cX12_learnt 3 = .ok (.invokestatic 107, 3) := by decide +kernel
theorem dX12_learnt_6 : decode cX12_learnt 6 = .ok (.ifCond .eq 11, 3) := by decide +kernel
theorem dX12_learnt_9 : decode cX12_learnt 9 = .ok (.aload_n 0, 1) := by decide +kernel
theorem dX12_learnt_10 : decode cX12_learnt 10 = .ok (.iload_n 1, 1) := by decide +kernel
theorem dX12_learnt_11 : decode cX12_learnt 11 = .ok (.invokevirtual 294, 3) := by decide +kernel
theorem dX12_learnt_14 : decode cX12_learnt 14 = .ok (.goto 5, 3) := by decide +kernel
theorem dX12_learnt_17 : decode cX12_learnt 17 = .ok (.bipush (-2), 2) := by decide +kernel
theorem dX12_learnt_19 : decode cX12_learnt 19 = .ok (.ireturn, 1) := by decide +kernel
theorem dX12_meets_0 : decode cX12_meets 0 = .ok (.aload_n 0, 1) := by decide +kernel
theorem dX12_meets_1 : decode cX12_meets 1 = .ok (.iload_n 1, 1) := by decide +kernel
theorem dX12_meets_2 : decode cX12_meets 2 = .ok (.putfield 297, 3) := by decide +kernel
theorem dX12_meets_5 : decode cX12_meets 5 = .ok (.bipush (-10), 2) := by decide +kernel
theorem dX12_meets_7 : decode cX12_meets 7 = .ok (.iload_n 1, 1) := by decide +kernel
theorem dX12_meets_8 : decode cX12_meets 8 = .ok (.isub, 1) := by decide +kernel
theorem dX12_meets_9 : decode cX12_meets 9 = .ok (.ireturn, 1) := by decide +kernel
theorem dX12_isSheet_0 : decode cX12_isSheet 0 = .ok (.iload_n 0, 1) := by decide +kernel
theorem dX12_isSheet_1 : decode cX12_isSheet 1 = .ok (.iconst 0, 1) := by decide +kernel
theorem dX12_isSheet_2 : decode cX12_isSheet 2 = .ok (.iconst 3, 1) := by decide +kernel
theorem dX12_isSheet_3 : decode cX12_isSheet 3 = .ok (.invokestatic 107, 3) := by decide +kernel
theorem dX12_isSheet_6 : decode cX12_isSheet 6 = .ok (.ireturn, 1) := by decide +kernel
theorem dX12_sheet_0 : decode cX12_sheet 0 = .ok (.iload_n 1, 1) := by decide +kernel
theorem dX12_sheet_1 : decode cX12_sheet 1 = .ok (.invokestatic 131, 3) := by decide +kernel
theorem dX12_sheet_4 : decode cX12_sheet 4 = .ok (.ifCond .eq 18, 3) := by decide +kernel
theorem dX12_sheet_7 : decode cX12_sheet 7 = .ok (.iload_n 2, 1) := by decide +kernel
theorem dX12_sheet_8 : decode cX12_sheet 8 = .ok (.iconst 0, 1) := by decide +kernel
theorem dX12_sheet_9 : decode cX12_sheet 9 = .ok (.iconst 2, 1) := by decide +kernel
theorem dX12_sheet_10 : decode cX12_sheet 10 = .ok (.invokestatic 107, 3) := by decide +kernel
theorem dX12_sheet_13 : decode cX12_sheet 13 = .ok (.ifCond .eq 9, 3) := by decide +kernel
theorem dX12_sheet_16 : decode cX12_sheet 16 = .ok (.iload_n 3, 1) := by decide +kernel
theorem dX12_sheet_17 : decode cX12_sheet 17 = .ok (.bipush 48, 2) := by decide +kernel
theorem dX12_sheet_19 : decode cX12_sheet 19 = .ok (.if_icmp .le 6, 3) := by decide +kernel
theorem dX12_sheet_22 : decode cX12_sheet 22 = .ok (.bipush (-2), 2) := by decide +kernel
theorem dX12_sheet_24 : decode cX12_sheet 24 = .ok (.ireturn, 1) := by decide +kernel
theorem dX12_sheet_25 : decode cX12_sheet 25 = .ok (.iload_n 3, 1) := by decide +kernel
theorem dX12_sheet_26 : decode cX12_sheet 26 = .ok (.ifCond .ge 9, 3) := by decide +kernel
theorem dX12_sheet_29 : decode cX12_sheet 29 = .ok (.aload_n 0, 1) := by decide +kernel
theorem dX12_sheet_30 : decode cX12_sheet 30 = .ok (.iconst 5, 1) := by decide +kernel
theorem dX12_sheet_31 : decode cX12_sheet 31 = .ok (.invokevirtual 134, 3) := by decide +kernel
theorem dX12_sheet_34 : decode cX12_sheet 34 = .ok (.ireturn, 1) := by decide +kernel
theorem dX12_sheet_35 : decode cX12_sheet 35 = .ok (.aload_n 0, 1) := by decide +kernel
theorem dX12_sheet_36 : decode cX12_sheet 36 = .ok (.getfield 89, 3) := by decide +kernel
theorem dX12_sheet_39 : decode cX12_sheet 39 = .ok (.iload_n 1, 1) := by decide +kernel
theorem dX12_sheet_40 : decode cX12_sheet 40 = .ok (.iconst 1, 1) := by decide +kernel
theorem dX12_sheet_41 : decode cX12_sheet 41 = .ok (.bastore, 1) := by decide +kernel
theorem dX12_sheet_42 : decode cX12_sheet 42 = .ok (.aload_n 0, 1) := by decide +kernel
theorem dX12_sheet_43 : decode cX12_sheet 43 = .ok (.getfield 93, 3) := by decide +kernel
theorem dX12_sheet_46 : decode cX12_sheet 46 = .ok (.iload_n 1, 1) := by decide +kernel
theorem dX12_sheet_47 : decode cX12_sheet 47 = .ok (.iload_n 2, 1) := by decide +kernel
theorem dX12_sheet_48 : decode cX12_sheet 48 = .ok (.iastore, 1) := by decide +kernel
theorem dX12_sheet_49 : decode cX12_sheet 49 = .ok (.aload_n 0, 1) := by decide +kernel
theorem dX12_sheet_50 : decode cX12_sheet 50 = .ok (.getfield 96, 3) := by decide +kernel
theorem dX12_sheet_53 : decode cX12_sheet 53 = .ok (.iload_n 1, 1) := by decide +kernel
theorem dX12_sheet_54 : decode cX12_sheet 54 = .ok (.iload_n 3, 1) := by decide +kernel
theorem dX12_sheet_55 : decode cX12_sheet 55 = .ok (.iastore, 1) := by decide +kernel
theorem dX12_sheet_56 : decode cX12_sheet 56 = .ok (.iconst 0, 1) := by decide +kernel
theorem dX12_sheet_57 : decode cX12_sheet 57 = .ok (.istore 4, 2) := by decide +kernel
theorem dX12_sheet_59 : decode cX12_sheet 59 = .ok (.iload 4, 2) := by decide +kernel
theorem dX12_sheet_61 : decode cX12_sheet 61 = .ok (.bipush 48, 2) := by decide +kernel
theorem dX12_sheet_63 : decode cX12_sheet 63 = .ok (.if_icmp .ge 22, 3) := by decide +kernel
theorem dX12_sheet_66 : decode cX12_sheet 66 = .ok (.aload_n 0, 1) := by decide +kernel
theorem dX12_sheet_67 : decode cX12_sheet 67 = .ok (.getfield 99, 3) := by decide +kernel
theorem dX12_sheet_70 : decode cX12_sheet 70 = .ok (.bipush 48, 2) := by decide +kernel
theorem dX12_sheet_72 : decode cX12_sheet 72 = .ok (.iload_n 1, 1) := by decide +kernel
theorem dX12_sheet_73 : decode cX12_sheet 73 = .ok (.imul, 1) := by decide +kernel
theorem dX12_sheet_74 : decode cX12_sheet 74 = .ok (.iload 4, 2) := by decide +kernel
theorem dX12_sheet_76 : decode cX12_sheet 76 = .ok (.iadd, 1) := by decide +kernel
theorem dX12_sheet_77 : decode cX12_sheet 77 = .ok (.iconst 0, 1) := by decide +kernel
theorem dX12_sheet_78 : decode cX12_sheet 78 = .ok (.iastore, 1) := by decide +kernel
theorem dX12_sheet_79 : decode cX12_sheet 79 = .ok (.iinc 4 1, 3) := by decide +kernel
theorem dX12_sheet_82 : decode cX12_sheet 82 = .ok (.goto (-23), 3) := by decide +kernel
theorem dX12_sheet_85 : decode cX12_sheet 85 = .ok (.iload_n 3, 1) := by decide +kernel
theorem dX12_sheet_86 : decode cX12_sheet 86 = .ok (.ireturn, 1) := by decide +kernel
theorem dX12_lose_0 : decode cX12_lose 0 = .ok (.iload_n 1, 1) := by decide +kernel
theorem dX12_lose_1 : decode cX12_lose 1 = .ok (.invokestatic 131, 3) := by decide +kernel
theorem dX12_lose_4 : decode cX12_lose 4 = .ok (.ifCond .ne 6, 3) := by decide +kernel
theorem dX12_lose_7 : decode cX12_lose 7 = .ok (.bipush (-2), 2) := by decide +kernel
theorem dX12_lose_9 : decode cX12_lose 9 = .ok (.ireturn, 1) := by decide +kernel
theorem dX12_lose_10 : decode cX12_lose 10 = .ok (.aload_n 0, 1) := by decide +kernel
theorem dX12_lose_11 : decode cX12_lose 11 = .ok (.getfield 89, 3) := by decide +kernel
theorem dX12_lose_14 : decode cX12_lose 14 = .ok (.iload_n 1, 1) := by decide +kernel
theorem dX12_lose_15 : decode cX12_lose 15 = .ok (.baload, 1) := by decide +kernel
theorem dX12_lose_16 : decode cX12_lose 16 = .ok (.ifCond .ne 9, 3) := by decide +kernel
theorem dX12_lose_19 : decode cX12_lose 19 = .ok (.aload_n 0, 1) := by decide +kernel
theorem dX12_lose_20 : decode cX12_lose 20 = .ok (.iconst 1, 1) := by decide +kernel
theorem dX12_lose_21 : decode cX12_lose 21 = .ok (.invokevirtual 134, 3) := by decide +kernel
theorem dX12_lose_24 : decode cX12_lose 24 = .ok (.ireturn, 1) := by decide +kernel
theorem dX12_lose_25 : decode cX12_lose 25 = .ok (.aload_n 0, 1) := by decide +kernel
theorem dX12_lose_26 : decode cX12_lose 26 = .ok (.getfield 89, 3) := by decide +kernel
theorem dX12_lose_29 : decode cX12_lose 29 = .ok (.iload_n 1, 1) := by decide +kernel
theorem dX12_lose_30 : decode cX12_lose 30 = .ok (.iconst 0, 1) := by decide +kernel
theorem dX12_lose_31 : decode cX12_lose 31 = .ok (.bastore, 1) := by decide +kernel
theorem dX12_lose_32 : decode cX12_lose 32 = .ok (.aload_n 0, 1) := by decide +kernel
theorem dX12_lose_33 : decode cX12_lose 33 = .ok (.getfield 96, 3) := by decide +kernel
theorem dX12_lose_36 : decode cX12_lose 36 = .ok (.iload_n 1, 1) := by decide +kernel
theorem dX12_lose_37 : decode cX12_lose 37 = .ok (.iaload, 1) := by decide +kernel
theorem dX12_lose_38 : decode cX12_lose 38 = .ok (.ireturn, 1) := by decide +kernel
theorem dX12_lacks_0 : decode cX12_lacks 0 = .ok (.aload_n 0, 1) := by decide +kernel
theorem dX12_lacks_1 : decode cX12_lacks 1 = .ok (.getfield 89, 3) := by decide +kernel
theorem dX12_lacks_4 : decode cX12_lacks 4 = .ok (.iload_n 1, 1) := by decide +kernel
theorem dX12_lacks_5 : decode cX12_lacks 5 = .ok (.baload, 1) := by decide +kernel
theorem dX12_lacks_6 : decode cX12_lacks 6 = .ok (.ifCond .ne 7, 3) := by decide +kernel
theorem dX12_lacks_9 : decode cX12_lacks 9 = .ok (.iconst 1, 1) := by decide +kernel
theorem dX12_lacks_10 : decode cX12_lacks 10 = .ok (.goto 38, 3) := by decide +kernel
theorem dX12_lacks_13 : decode cX12_lacks 13 = .ok (.aload_n 0, 1) := by decide +kernel
theorem dX12_lacks_14 : decode cX12_lacks 14 = .ok (.getfield 93, 3) := by decide +kernel
theorem dX12_lacks_17 : decode cX12_lacks 17 = .ok (.iload_n 1, 1) := by decide +kernel
theorem dX12_lacks_18 : decode cX12_lacks 18 = .ok (.iaload, 1) := by decide +kernel
theorem dX12_lacks_19 : decode cX12_lacks 19 = .ok (.iload_n 2, 1) := by decide +kernel
theorem dX12_lacks_20 : decode cX12_lacks 20 = .ok (.if_icmp .eq 7, 3) := by decide +kernel
theorem dX12_lacks_23 : decode cX12_lacks 23 = .ok (.iconst 3, 1) := by decide +kernel
theorem dX12_lacks_24 : decode cX12_lacks 24 = .ok (.goto 24, 3) := by decide +kernel
theorem dX12_lacks_27 : decode cX12_lacks 27 = .ok (.iload_n 3, 1) := by decide +kernel
theorem dX12_lacks_28 : decode cX12_lacks 28 = .ok (.iconst 0, 1) := by decide +kernel
theorem dX12_lacks_29 : decode cX12_lacks 29 = .ok (.aload_n 0, 1) := by decide +kernel
theorem dX12_lacks_30 : decode cX12_lacks 30 = .ok (.getfield 96, 3) := by decide +kernel
theorem dX12_lacks_33 : decode cX12_lacks 33 = .ok (.iload_n 1, 1) := by decide +kernel
theorem dX12_lacks_34 : decode cX12_lacks 34 = .ok (.iaload, 1) := by decide +kernel
theorem dX12_lacks_35 : decode cX12_lacks 35 = .ok (.iconst 1, 1) := by decide +kernel
theorem dX12_lacks_36 : decode cX12_lacks 36 = .ok (.isub, 1) := by decide +kernel
theorem dX12_lacks_37 : decode cX12_lacks 37 = .ok (.invokestatic 107, 3) := by decide +kernel
theorem dX12_lacks_40 : decode cX12_lacks 40 = .ok (.ifCond .eq 7, 3) := by decide +kernel
theorem dX12_lacks_43 : decode cX12_lacks 43 = .ok (.iconst 0, 1) := by decide +kernel
theorem dX12_lacks_44 : decode cX12_lacks 44 = .ok (.goto 4, 3) := by decide +kernel
theorem dX12_lacks_47 : decode cX12_lacks 47 = .ok (.iconst 2, 1) := by decide +kernel
theorem dX12_lacks_48 : decode cX12_lacks 48 = .ok (.ireturn, 1) := by decide +kernel
theorem dX12_keep_0 : decode cX12_keep 0 = .ok (.aload_n 0, 1) := by decide +kernel
theorem dX12_keep_1 : decode cX12_keep 1 = .ok (.getfield 99, 3) := by decide +kernel
theorem dX12_keep_4 : decode cX12_keep 4 = .ok (.bipush 48, 2) := by decide +kernel
theorem dX12_keep_6 : decode cX12_keep 6 = .ok (.iload_n 1, 1) := by decide +kernel
theorem dX12_keep_7 : decode cX12_keep 7 = .ok (.imul, 1) := by decide +kernel
theorem dX12_keep_8 : decode cX12_keep 8 = .ok (.iload_n 2, 1) := by decide +kernel
theorem dX12_keep_9 : decode cX12_keep 9 = .ok (.iadd, 1) := by decide +kernel
theorem dX12_keep_10 : decode cX12_keep 10 = .ok (.aload_n 0, 1) := by decide +kernel
theorem dX12_keep_11 : decode cX12_keep 11 = .ok (.getfield 93, 3) := by decide +kernel
theorem dX12_keep_14 : decode cX12_keep 14 = .ok (.iload_n 1, 1) := by decide +kernel
theorem dX12_keep_15 : decode cX12_keep 15 = .ok (.iaload, 1) := by decide +kernel
theorem dX12_keep_16 : decode cX12_keep 16 = .ok (.ifCond .ne 8, 3) := by decide +kernel
theorem dX12_keep_19 : decode cX12_keep 19 = .ok (.iload_n 3, 1) := by decide +kernel
theorem dX12_keep_20 : decode cX12_keep 20 = .ok (.i2b, 1) := by decide +kernel
theorem dX12_keep_21 : decode cX12_keep 21 = .ok (.goto 19, 3) := by decide +kernel
theorem dX12_keep_24 : decode cX12_keep 24 = .ok (.aload_n 0, 1) := by decide +kernel
theorem dX12_keep_25 : decode cX12_keep 25 = .ok (.getfield 93, 3) := by decide +kernel
theorem dX12_keep_28 : decode cX12_keep 28 = .ok (.iload_n 1, 1) := by decide +kernel
theorem dX12_keep_29 : decode cX12_keep 29 = .ok (.iaload, 1) := by decide +kernel
theorem dX12_keep_30 : decode cX12_keep 30 = .ok (.iconst 1, 1) := by decide +kernel
theorem dX12_keep_31 : decode cX12_keep 31 = .ok (.if_icmp .ne 8, 3) := by decide +kernel
theorem dX12_keep_34 : decode cX12_keep 34 = .ok (.iload_n 3, 1) := by decide +kernel
theorem dX12_keep_35 : decode cX12_keep 35 = .ok (.i2s, 1) := by decide +kernel
theorem dX12_keep_36 : decode cX12_keep 36 = .ok (.goto 4, 3) := by decide +kernel
theorem dX12_keep_39 : decode cX12_keep 39 = .ok (.iload_n 3, 1) := by decide +kernel
theorem dX12_keep_40 : decode cX12_keep 40 = .ok (.iastore, 1) := by decide +kernel
theorem dX12_keep_41 : decode cX12_keep 41 = .ok (.return_, 1) := by decide +kernel
theorem dX12_put_0 : decode cX12_put 0 = .ok (.iload_n 1, 1) := by decide +kernel
theorem dX12_put_1 : decode cX12_put 1 = .ok (.invokestatic 131, 3) := by decide +kernel
theorem dX12_put_4 : decode cX12_put 4 = .ok (.ifCond .eq 12, 3) := by decide +kernel
theorem dX12_put_7 : decode cX12_put 7 = .ok (.iload_n 2, 1) := by decide +kernel
theorem dX12_put_8 : decode cX12_put 8 = .ok (.iconst 0, 1) := by decide +kernel
theorem dX12_put_9 : decode cX12_put 9 = .ok (.iconst 2, 1) := by decide +kernel
theorem dX12_put_10 : decode cX12_put 10 = .ok (.invokestatic 107, 3) := by decide +kernel
theorem dX12_put_13 : decode cX12_put 13 = .ok (.ifCond .ne 6, 3) := by decide +kernel
theorem dX12_put_16 : decode cX12_put 16 = .ok (.bipush (-2), 2) := by decide +kernel
theorem dX12_put_18 : decode cX12_put 18 = .ok (.ireturn, 1) := by decide +kernel
theorem dX12_put_19 : decode cX12_put 19 = .ok (.aload_n 0, 1) := by decide +kernel
theorem dX12_put_20 : decode cX12_put 20 = .ok (.iload_n 1, 1) := by decide +kernel
theorem dX12_put_21 : decode cX12_put 21 = .ok (.iload_n 2, 1) := by decide +kernel
theorem dX12_put_22 : decode cX12_put 22 = .ok (.iload_n 3, 1) := by decide +kernel
theorem dX12_put_23 : decode cX12_put 23 = .ok (.invokevirtual 300, 3) := by decide +kernel
theorem dX12_put_26 : decode cX12_put 26 = .ok (.istore 5, 2) := by decide +kernel
theorem dX12_put_28 : decode cX12_put 28 = .ok (.iload 5, 2) := by decide +kernel
theorem dX12_put_30 : decode cX12_put 30 = .ok (.ifCond .le 10, 3) := by decide +kernel
theorem dX12_put_33 : decode cX12_put 33 = .ok (.aload_n 0, 1) := by decide +kernel
theorem dX12_put_34 : decode cX12_put 34 = .ok (.iload 5, 2) := by decide +kernel
theorem dX12_put_36 : decode cX12_put 36 = .ok (.invokevirtual 134, 3) := by decide +kernel
theorem dX12_put_39 : decode cX12_put 39 = .ok (.ireturn, 1) := by decide +kernel
theorem dX12_put_40 : decode cX12_put 40 = .ok (.aload_n 0, 1) := by decide +kernel
theorem dX12_put_41 : decode cX12_put 41 = .ok (.iload_n 1, 1) := by decide +kernel
theorem dX12_put_42 : decode cX12_put 42 = .ok (.iload_n 3, 1) := by decide +kernel
theorem dX12_put_43 : decode cX12_put 43 = .ok (.iload 4, 2) := by decide +kernel
theorem dX12_put_45 : decode cX12_put 45 = .ok (.invokevirtual 303, 3) := by decide +kernel
theorem dX12_put_48 : decode cX12_put 48 = .ok (.iconst 1, 1) := by decide +kernel
theorem dX12_put_49 : decode cX12_put 49 = .ok (.ireturn, 1) := by decide +kernel
theorem dX12_get_0 : decode cX12_get 0 = .ok (.iload_n 1, 1) := by decide +kernel
theorem dX12_get_1 : decode cX12_get 1 = .ok (.invokestatic 131, 3) := by decide +kernel
theorem dX12_get_4 : decode cX12_get 4 = .ok (.ifCond .eq 12, 3) := by decide +kernel
theorem dX12_get_7 : decode cX12_get 7 = .ok (.iload_n 2, 1) := by decide +kernel
theorem dX12_get_8 : decode cX12_get 8 = .ok (.iconst 0, 1) := by decide +kernel
theorem dX12_get_9 : decode cX12_get 9 = .ok (.iconst 2, 1) := by decide +kernel
theorem dX12_get_10 : decode cX12_get 10 = .ok (.invokestatic 107, 3) := by decide +kernel
theorem dX12_get_13 : decode cX12_get 13 = .ok (.ifCond .ne 7, 3) := by decide +kernel
theorem dX12_get_16 : decode cX12_get 16 = .ok (.ldc_w 307, 3) := by decide +kernel
theorem dX12_get_19 : decode cX12_get 19 = .ok (.ireturn, 1) := by decide +kernel
theorem dX12_get_20 : decode cX12_get 20 = .ok (.aload_n 0, 1) := by decide +kernel
theorem dX12_get_21 : decode cX12_get 21 = .ok (.iload_n 1, 1) := by decide +kernel
theorem dX12_get_22 : decode cX12_get 22 = .ok (.iload_n 2, 1) := by decide +kernel
theorem dX12_get_23 : decode cX12_get 23 = .ok (.iload_n 3, 1) := by decide +kernel
theorem dX12_get_24 : decode cX12_get 24 = .ok (.invokevirtual 300, 3) := by decide +kernel
theorem dX12_get_27 : decode cX12_get 27 = .ok (.istore 4, 2) := by decide +kernel
theorem dX12_get_29 : decode cX12_get 29 = .ok (.iload 4, 2) := by decide +kernel
theorem dX12_get_31 : decode cX12_get 31 = .ok (.ifCond .le 13, 3) := by decide +kernel
theorem dX12_get_34 : decode cX12_get 34 = .ok (.aload_n 0, 1) := by decide +kernel
theorem dX12_get_35 : decode cX12_get 35 = .ok (.iload 4, 2) := by decide +kernel
theorem dX12_get_37 : decode cX12_get 37 = .ok (.putfield 297, 3) := by decide +kernel
theorem dX12_get_40 : decode cX12_get 40 = .ok (.ldc_w 307, 3) := by decide +kernel
theorem dX12_get_43 : decode cX12_get 43 = .ok (.ireturn, 1) := by decide +kernel
theorem dX12_get_44 : decode cX12_get 44 = .ok (.aload_n 0, 1) := by decide +kernel
theorem dX12_get_45 : decode cX12_get 45 = .ok (.getfield 99, 3) := by decide +kernel
theorem dX12_get_48 : decode cX12_get 48 = .ok (.bipush 48, 2) := by decide +kernel
theorem dX12_get_50 : decode cX12_get 50 = .ok (.iload_n 1, 1) := by decide +kernel
theorem dX12_get_51 : decode cX12_get 51 = .ok (.imul, 1) := by decide +kernel
theorem dX12_get_52 : decode cX12_get 52 = .ok (.iload_n 3, 1) := by decide +kernel
theorem dX12_get_53 : decode cX12_get 53 = .ok (.iadd, 1) := by decide +kernel
theorem dX12_get_54 : decode cX12_get 54 = .ok (.iaload, 1) := by decide +kernel
theorem dX12_get_55 : decode cX12_get 55 = .ok (.ireturn, 1) := by decide +kernel
theorem dX12_copy_0 : decode cX12_copy 0 = .ok (.iload_n 1, 1) := by decide +kernel
theorem dX12_copy_1 : decode cX12_copy 1 = .ok (.invokestatic 131, 3) := by decide +kernel
theorem dX12_copy_4 : decode cX12_copy 4 = .ok (.ifCond .eq 10, 3) := by decide +kernel
theorem dX12_copy_7 : decode cX12_copy 7 = .ok (.iload_n 3, 1) := by decide +kernel
theorem dX12_copy_8 : decode cX12_copy 8 = .ok (.invokestatic 131, 3) := by decide +kernel
theorem dX12_copy_11 : decode cX12_copy 11 = .ok (.ifCond .ne 6, 3) := by decide +kernel
theorem dX12_copy_14 : decode cX12_copy 14 = .ok (.bipush (-2), 2) := by decide +kernel
theorem dX12_copy_16 : decode cX12_copy 16 = .ok (.ireturn, 1) := by decide +kernel
theorem dX12_copy_17 : decode cX12_copy 17 = .ok (.aload_n 0, 1) := by decide +kernel
theorem dX12_copy_18 : decode cX12_copy 18 = .ok (.getfield 89, 3) := by decide +kernel
theorem dX12_copy_21 : decode cX12_copy 21 = .ok (.iload_n 1, 1) := by decide +kernel
theorem dX12_copy_22 : decode cX12_copy 22 = .ok (.baload, 1) := by decide +kernel
theorem dX12_copy_23 : decode cX12_copy 23 = .ok (.ifCond .eq 12, 3) := by decide +kernel
theorem dX12_copy_26 : decode cX12_copy 26 = .ok (.aload_n 0, 1) := by decide +kernel
theorem dX12_copy_27 : decode cX12_copy 27 = .ok (.getfield 89, 3) := by decide +kernel
theorem dX12_copy_30 : decode cX12_copy 30 = .ok (.iload_n 3, 1) := by decide +kernel
theorem dX12_copy_31 : decode cX12_copy 31 = .ok (.baload, 1) := by decide +kernel
theorem dX12_copy_32 : decode cX12_copy 32 = .ok (.ifCond .ne 9, 3) := by decide +kernel
theorem dX12_copy_35 : decode cX12_copy 35 = .ok (.aload_n 0, 1) := by decide +kernel
theorem dX12_copy_36 : decode cX12_copy 36 = .ok (.iconst 1, 1) := by decide +kernel
theorem dX12_copy_37 : decode cX12_copy 37 = .ok (.invokevirtual 134, 3) := by decide +kernel
theorem dX12_copy_40 : decode cX12_copy 40 = .ok (.ireturn, 1) := by decide +kernel
theorem dX12_copy_41 : decode cX12_copy 41 = .ok (.aload_n 0, 1) := by decide +kernel
theorem dX12_copy_42 : decode cX12_copy 42 = .ok (.getfield 93, 3) := by decide +kernel
theorem dX12_copy_45 : decode cX12_copy 45 = .ok (.iload_n 1, 1) := by decide +kernel
theorem dX12_copy_46 : decode cX12_copy 46 = .ok (.iaload, 1) := by decide +kernel
theorem dX12_copy_47 : decode cX12_copy 47 = .ok (.aload_n 0, 1) := by decide +kernel
theorem dX12_copy_48 : decode cX12_copy 48 = .ok (.getfield 93, 3) := by decide +kernel
theorem dX12_copy_51 : decode cX12_copy 51 = .ok (.iload_n 3, 1) := by decide +kernel
theorem dX12_copy_52 : decode cX12_copy 52 = .ok (.iaload, 1) := by decide +kernel
theorem dX12_copy_53 : decode cX12_copy 53 = .ok (.if_icmp .eq 9, 3) := by decide +kernel
theorem dX12_copy_56 : decode cX12_copy 56 = .ok (.aload_n 0, 1) := by decide +kernel
theorem dX12_copy_57 : decode cX12_copy 57 = .ok (.iconst 4, 1) := by decide +kernel
theorem dX12_copy_58 : decode cX12_copy 58 = .ok (.invokevirtual 134, 3) := by decide +kernel
theorem dX12_copy_61 : decode cX12_copy 61 = .ok (.ireturn, 1) := by decide +kernel
theorem dX12_copy_62 : decode cX12_copy 62 = .ok (.iload_n 2, 1) := by decide +kernel
theorem dX12_copy_63 : decode cX12_copy 63 = .ok (.ifCond .lt 48, 3) := by decide +kernel
theorem dX12_copy_66 : decode cX12_copy 66 = .ok (.iload 4, 2) := by decide +kernel
theorem dX12_copy_68 : decode cX12_copy 68 = .ok (.ifCond .lt 43, 3) := by decide +kernel
theorem dX12_copy_71 : decode cX12_copy 71 = .ok (.iload 5, 2) := by decide +kernel
theorem dX12_copy_73 : decode cX12_copy 73 = .ok (.ifCond .lt 38, 3) := by decide +kernel
theorem dX12_copy_76 : decode cX12_copy 76 = .ok (.iload_n 2, 1) := by decide +kernel
theorem dX12_copy_77 : decode cX12_copy 77 = .ok (.i2l, 1) := by decide +kernel
theorem dX12_copy_78 : decode cX12_copy 78 = .ok (.iload 5, 2) := by decide +kernel
theorem dX12_copy_80 : decode cX12_copy 80 = .ok (.i2l, 1) := by decide +kernel
theorem dX12_copy_81 : decode cX12_copy 81 = .ok (.ladd, 1) := by decide +kernel
theorem dX12_copy_82 : decode cX12_copy 82 = .ok (.aload_n 0, 1) := by decide +kernel
theorem dX12_copy_83 : decode cX12_copy 83 = .ok (.getfield 96, 3) := by decide +kernel
theorem dX12_copy_86 : decode cX12_copy 86 = .ok (.iload_n 1, 1) := by decide +kernel
theorem dX12_copy_87 : decode cX12_copy 87 = .ok (.iaload, 1) := by decide +kernel
theorem dX12_copy_88 : decode cX12_copy 88 = .ok (.i2l, 1) := by decide +kernel
theorem dX12_copy_89 : decode cX12_copy 89 = .ok (.lcmp, 1) := by decide +kernel
theorem dX12_copy_90 : decode cX12_copy 90 = .ok (.ifCond .gt 21, 3) := by decide +kernel
theorem dX12_copy_93 : decode cX12_copy 93 = .ok (.iload 4, 2) := by decide +kernel
theorem dX12_copy_95 : decode cX12_copy 95 = .ok (.i2l, 1) := by decide +kernel
theorem dX12_copy_96 : decode cX12_copy 96 = .ok (.iload 5, 2) := by decide +kernel
theorem dX12_copy_98 : decode cX12_copy 98 = .ok (.i2l, 1) := by decide +kernel
theorem dX12_copy_99 : decode cX12_copy 99 = .ok (.ladd, 1) := by decide +kernel
theorem dX12_copy_100 : decode cX12_copy 100 = .ok (.aload_n 0, 1) := by decide +kernel
theorem dX12_copy_101 : decode cX12_copy 101 = .ok (.getfield 96, 3) := by decide +kernel
theorem dX12_copy_104 : decode cX12_copy 104 = .ok (.iload_n 3, 1) := by decide +kernel
theorem dX12_copy_105 : decode cX12_copy 105 = .ok (.iaload, 1) := by decide +kernel
theorem dX12_copy_106 : decode cX12_copy 106 = .ok (.i2l, 1) := by decide +kernel
theorem dX12_copy_107 : decode cX12_copy 107 = .ok (.lcmp, 1) := by decide +kernel
theorem dX12_copy_108 : decode cX12_copy 108 = .ok (.ifCond .le 9, 3) := by decide +kernel
theorem dX12_copy_111 : decode cX12_copy 111 = .ok (.aload_n 0, 1) := by decide +kernel
theorem dX12_copy_112 : decode cX12_copy 112 = .ok (.iconst 2, 1) := by decide +kernel
theorem dX12_copy_113 : decode cX12_copy 113 = .ok (.invokevirtual 134, 3) := by decide +kernel
theorem dX12_copy_116 : decode cX12_copy 116 = .ok (.ireturn, 1) := by decide +kernel
theorem dX12_copy_117 : decode cX12_copy 117 = .ok (.iconst 0, 1) := by decide +kernel
theorem dX12_copy_118 : decode cX12_copy 118 = .ok (.istore 6, 2) := by decide +kernel
theorem dX12_copy_120 : decode cX12_copy 120 = .ok (.iload 6, 2) := by decide +kernel
theorem dX12_copy_122 : decode cX12_copy 122 = .ok (.iload 5, 2) := by decide +kernel
theorem dX12_copy_124 : decode cX12_copy 124 = .ok (.if_icmp .ge 30, 3) := by decide +kernel
theorem dX12_copy_127 : decode cX12_copy 127 = .ok (.aload_n 0, 1) := by decide +kernel
theorem dX12_copy_128 : decode cX12_copy 128 = .ok (.getfield 102, 3) := by decide +kernel
theorem dX12_copy_131 : decode cX12_copy 131 = .ok (.iload 6, 2) := by decide +kernel
theorem dX12_copy_133 : decode cX12_copy 133 = .ok (.aload_n 0, 1) := by decide +kernel
theorem dX12_copy_134 : decode cX12_copy 134 = .ok (.getfield 99, 3) := by decide +kernel
theorem dX12_copy_137 : decode cX12_copy 137 = .ok (.bipush 48, 2) := by decide +kernel
theorem dX12_copy_139 : decode cX12_copy 139 = .ok (.iload_n 1, 1) := by decide +kernel
theorem dX12_copy_140 : decode cX12_copy 140 = .ok (.imul, 1) := by decide +kernel
theorem dX12_copy_141 : decode cX12_copy 141 = .ok (.iload_n 2, 1) := by decide +kernel
theorem dX12_copy_142 : decode cX12_copy 142 = .ok (.iadd, 1) := by decide +kernel
theorem dX12_copy_143 : decode cX12_copy 143 = .ok (.iload 6, 2) := by decide +kernel
theorem dX12_copy_145 : decode cX12_copy 145 = .ok (.iadd, 1) := by decide +kernel
theorem dX12_copy_146 : decode cX12_copy 146 = .ok (.iaload, 1) := by decide +kernel
theorem dX12_copy_147 : decode cX12_copy 147 = .ok (.iastore, 1) := by decide +kernel
theorem dX12_copy_148 : decode cX12_copy 148 = .ok (.iinc 6 1, 3) := by decide +kernel
theorem dX12_copy_151 : decode cX12_copy 151 = .ok (.goto (-31), 3) := by decide +kernel
theorem dX12_copy_154 : decode cX12_copy 154 = .ok (.iconst 0, 1) := by decide +kernel
theorem dX12_copy_155 : decode cX12_copy 155 = .ok (.istore 6, 2) := by decide +kernel
theorem dX12_copy_157 : decode cX12_copy 157 = .ok (.iload 6, 2) := by decide +kernel
theorem dX12_copy_159 : decode cX12_copy 159 = .ok (.iload 5, 2) := by decide +kernel
theorem dX12_copy_161 : decode cX12_copy 161 = .ok (.if_icmp .ge 31, 3) := by decide +kernel
theorem dX12_copy_164 : decode cX12_copy 164 = .ok (.aload_n 0, 1) := by decide +kernel
theorem dX12_copy_165 : decode cX12_copy 165 = .ok (.getfield 99, 3) := by decide +kernel
theorem dX12_copy_168 : decode cX12_copy 168 = .ok (.bipush 48, 2) := by decide +kernel
theorem dX12_copy_170 : decode cX12_copy 170 = .ok (.iload_n 3, 1) := by decide +kernel
theorem dX12_copy_171 : decode cX12_copy 171 = .ok (.imul, 1) := by decide +kernel
theorem dX12_copy_172 : decode cX12_copy 172 = .ok (.iload 4, 2) := by decide +kernel
theorem dX12_copy_174 : decode cX12_copy 174 = .ok (.iadd, 1) := by decide +kernel
theorem dX12_copy_175 : decode cX12_copy 175 = .ok (.iload 6, 2) := by decide +kernel
theorem dX12_copy_177 : decode cX12_copy 177 = .ok (.iadd, 1) := by decide +kernel
theorem dX12_copy_178 : decode cX12_copy 178 = .ok (.aload_n 0, 1) := by decide +kernel
theorem dX12_copy_179 : decode cX12_copy 179 = .ok (.getfield 102, 3) := by decide +kernel
theorem dX12_copy_182 : decode cX12_copy 182 = .ok (.iload 6, 2) := by decide +kernel
theorem dX12_copy_184 : decode cX12_copy 184 = .ok (.iaload, 1) := by decide +kernel
theorem dX12_copy_185 : decode cX12_copy 185 = .ok (.iastore, 1) := by decide +kernel
theorem dX12_copy_186 : decode cX12_copy 186 = .ok (.iinc 6 1, 3) := by decide +kernel
theorem dX12_copy_189 : decode cX12_copy 189 = .ok (.goto (-32), 3) := by decide +kernel
theorem dX12_copy_192 : decode cX12_copy 192 = .ok (.iconst 1, 1) := by decide +kernel
theorem dX12_copy_193 : decode cX12_copy 193 = .ok (.ireturn, 1) := by decide +kernel
theorem dX12_write_0 : decode cX12_write 0 = .ok (.iload_n 1, 1) := by decide +kernel
theorem dX12_write_1 : decode cX12_write 1 = .ok (.invokestatic 154, 3) := by decide +kernel
theorem dX12_write_4 : decode cX12_write 4 = .ok (.ifCond .eq 17, 3) := by decide +kernel
theorem dX12_write_7 : decode cX12_write 7 = .ok (.iload_n 2, 1) := by decide +kernel
theorem dX12_write_8 : decode cX12_write 8 = .ok (.invokestatic 115, 3) := by decide +kernel
theorem dX12_write_11 : decode cX12_write 11 = .ok (.ifCond .eq 10, 3) := by decide +kernel
theorem dX12_write_14 : decode cX12_write 14 = .ok (.iload_n 3, 1) := by decide +kernel
theorem dX12_write_15 : decode cX12_write 15 = .ok (.invokestatic 131, 3) := by decide +kernel
theorem dX12_write_18 : decode cX12_write 18 = .ok (.ifCond .ne 6, 3) := by decide +kernel
theorem dX12_write_21 : decode cX12_write 21 = .ok (.bipush (-2), 2) := by decide +kernel
theorem dX12_write_23 : decode cX12_write 23 = .ok (.ireturn, 1) := by decide +kernel
theorem dX12_write_24 : decode cX12_write 24 = .ok (.aload_n 0, 1) := by decide +kernel
theorem dX12_write_25 : decode cX12_write 25 = .ok (.getfield 89, 3) := by decide +kernel
theorem dX12_write_28 : decode cX12_write 28 = .ok (.iload_n 3, 1) := by decide +kernel
theorem dX12_write_29 : decode cX12_write 29 = .ok (.baload, 1) := by decide +kernel
theorem dX12_write_30 : decode cX12_write 30 = .ok (.ifCond .ne 9, 3) := by decide +kernel
theorem dX12_write_33 : decode cX12_write 33 = .ok (.aload_n 0, 1) := by decide +kernel
theorem dX12_write_34 : decode cX12_write 34 = .ok (.iconst 1, 1) := by decide +kernel
theorem dX12_write_35 : decode cX12_write 35 = .ok (.invokevirtual 134, 3) := by decide +kernel
theorem dX12_write_38 : decode cX12_write 38 = .ok (.ireturn, 1) := by decide +kernel
theorem dX12_write_39 : decode cX12_write 39 = .ok (.iconst 0, 1) := by decide +kernel
theorem dX12_write_40 : decode cX12_write 40 = .ok (.istore 4, 2) := by decide +kernel
theorem dX12_write_42 : decode cX12_write 42 = .ok (.iconst 0, 1) := by decide +kernel
theorem dX12_write_43 : decode cX12_write 43 = .ok (.istore 5, 2) := by decide +kernel
theorem dX12_write_45 : decode cX12_write 45 = .ok (.iload 5, 2) := by decide +kernel
theorem dX12_write_47 : decode cX12_write 47 = .ok (.aload_n 0, 1) := by decide +kernel
theorem dX12_write_48 : decode cX12_write 48 = .ok (.getfield 124, 3) := by decide +kernel
theorem dX12_write_51 : decode cX12_write 51 = .ok (.if_icmp .ge 48, 3) := by decide +kernel
theorem dX12_write_54 : decode cX12_write 54 = .ok (.iload 4, 2) := by decide +kernel
theorem dX12_write_56 : decode cX12_write 56 = .ok (.aload_n 0, 1) := by decide +kernel
theorem dX12_write_57 : decode cX12_write 57 = .ok (.getfield 96, 3) := by decide +kernel
theorem dX12_write_60 : decode cX12_write 60 = .ok (.iload_n 3, 1) := by decide +kernel
theorem dX12_write_61 : decode cX12_write 61 = .ok (.iaload, 1) := by decide +kernel
theorem dX12_write_62 : decode cX12_write 62 = .ok (.if_icmp .ge 37, 3) := by decide +kernel
theorem dX12_write_65 : decode cX12_write 65 = .ok (.aload_n 0, 1) := by decide +kernel
theorem dX12_write_66 : decode cX12_write 66 = .ok (.iload 5, 2) := by decide +kernel
theorem dX12_write_68 : decode cX12_write 68 = .ok (.iload_n 1, 1) := by decide +kernel
theorem dX12_write_69 : decode cX12_write 69 = .ok (.iload_n 2, 1) := by decide +kernel
theorem dX12_write_70 : decode cX12_write 70 = .ok (.invokevirtual 141, 3) := by decide +kernel
theorem dX12_write_73 : decode cX12_write 73 = .ok (.ifCond .eq 20, 3) := by decide +kernel
theorem dX12_write_76 : decode cX12_write 76 = .ok (.aload_n 0, 1) := by decide +kernel
theorem dX12_write_77 : decode cX12_write 77 = .ok (.iload_n 3, 1) := by decide +kernel
theorem dX12_write_78 : decode cX12_write 78 = .ok (.iload 4, 2) := by decide +kernel
theorem dX12_write_80 : decode cX12_write 80 = .ok (.aload_n 0, 1) := by decide +kernel
theorem dX12_write_81 : decode cX12_write 81 = .ok (.getfield 16, 3) := by decide +kernel
theorem dX12_write_84 : decode cX12_write 84 = .ok (.iload 5, 2) := by decide +kernel
theorem dX12_write_86 : decode cX12_write 86 = .ok (.iaload, 1) := by decide +kernel
theorem dX12_write_87 : decode cX12_write 87 = .ok (.invokevirtual 303, 3) := by decide +kernel
theorem dX12_write_90 : decode cX12_write 90 = .ok (.iinc 4 1, 3) := by decide +kernel
theorem dX12_write_93 : decode cX12_write 93 = .ok (.iinc 5 1, 3) := by decide +kernel
theorem dX12_write_96 : decode cX12_write 96 = .ok (.goto (-51), 3) := by decide +kernel
theorem dX12_write_99 : decode cX12_write 99 = .ok (.iload 4, 2) := by decide +kernel
theorem dX12_write_101 : decode cX12_write 101 = .ok (.ireturn, 1) := by decide +kernel
theorem dX12_knownMany_0 : decode cX12_knownMany 0 = .ok (.iconst 0, 1) := by decide +kernel
theorem dX12_knownMany_1 : decode cX12_knownMany 1 = .ok (.istore_n 1, 1) := by decide +kernel
theorem dX12_knownMany_2 : decode cX12_knownMany 2 = .ok (.iconst 0, 1) := by decide +kernel
theorem dX12_knownMany_3 : decode cX12_knownMany 3 = .ok (.istore_n 2, 1) := by decide +kernel
theorem dX12_knownMany_4 : decode cX12_knownMany 4 = .ok (.iload_n 2, 1) := by decide +kernel
theorem dX12_knownMany_5 : decode cX12_knownMany 5 = .ok (.aload_n 0, 1) := by decide +kernel
theorem dX12_knownMany_6 : decode cX12_knownMany 6 = .ok (.getfield 124, 3) := by decide +kernel
theorem dX12_knownMany_9 : decode cX12_knownMany 9 = .ok (.if_icmp .ge 25, 3) := by decide +kernel
theorem dX12_knownMany_12 : decode cX12_knownMany 12 = .ok (.iload_n 1, 1) := by decide +kernel
theorem dX12_knownMany_13 : decode cX12_knownMany 13 = .ok (.aload_n 0, 1) := by decide +kernel
theorem dX12_knownMany_14 : decode cX12_knownMany 14 = .ok (.iload_n 2, 1) := by decide +kernel
theorem dX12_knownMany_15 : decode cX12_knownMany 15 = .ok (.invokevirtual 138, 3) := by decide +kernel
theorem dX12_knownMany_18 : decode cX12_knownMany 18 = .ok (.ifCond .eq 7, 3) := by decide +kernel
theorem dX12_knownMany_21 : decode cX12_knownMany 21 = .ok (.iconst 1, 1) := by decide +kernel
theorem dX12_knownMany_22 : decode cX12_knownMany 22 = .ok (.goto 4, 3) := by decide +kernel
theorem dX12_knownMany_25 : decode cX12_knownMany 25 = .ok (.iconst 0, 1) := by decide +kernel
theorem dX12_knownMany_26 : decode cX12_knownMany 26 = .ok (.iadd, 1) := by decide +kernel
theorem dX12_knownMany_27 : decode cX12_knownMany 27 = .ok (.istore_n 1, 1) := by decide +kernel
theorem dX12_knownMany_28 : decode cX12_knownMany 28 = .ok (.iinc 2 1, 3) := by decide +kernel
theorem dX12_knownMany_31 : decode cX12_knownMany 31 = .ok (.goto (-27), 3) := by decide +kernel
theorem dX12_knownMany_34 : decode cX12_knownMany 34 = .ok (.iload_n 1, 1) := by decide +kernel
theorem dX12_knownMany_35 : decode cX12_knownMany 35 = .ok (.ireturn, 1) := by decide +kernel
theorem dX12_count_0 : decode cX12_count 0 = .ok (.iload_n 1, 1) := by decide +kernel
theorem dX12_count_1 : decode cX12_count 1 = .ok (.tableswitch 96 0 8 #[51, 56, 61, 66, 71, 76, 81, 86, 91], 51) := by decide +kernel
theorem dX12_count_52 : decode cX12_count 52 = .ok (.aload_n 0, 1) := by decide +kernel
theorem dX12_count_53 : decode cX12_count 53 = .ok (.getfield 124, 3) := by decide +kernel
theorem dX12_count_56 : decode cX12_count 56 = .ok (.ireturn, 1) := by decide +kernel
theorem dX12_count_57 : decode cX12_count 57 = .ok (.aload_n 0, 1) := by decide +kernel
theorem dX12_count_58 : decode cX12_count 58 = .ok (.invokevirtual 308, 3) := by decide +kernel
theorem dX12_count_61 : decode cX12_count 61 = .ok (.ireturn, 1) := by decide +kernel
theorem dX12_count_62 : decode cX12_count 62 = .ok (.aload_n 0, 1) := by decide +kernel
theorem dX12_count_63 : decode cX12_count 63 = .ok (.getfield 176, 3) := by decide +kernel
theorem dX12_count_66 : decode cX12_count 66 = .ok (.ireturn, 1) := by decide +kernel
theorem dX12_count_67 : decode cX12_count 67 = .ok (.aload_n 0, 1) := by decide +kernel
theorem dX12_count_68 : decode cX12_count 68 = .ok (.getfield 195, 3) := by decide +kernel
theorem dX12_count_71 : decode cX12_count 71 = .ok (.ireturn, 1) := by decide +kernel
theorem dX12_count_72 : decode cX12_count 72 = .ok (.aload_n 0, 1) := by decide +kernel
theorem dX12_count_73 : decode cX12_count 73 = .ok (.getfield 209, 3) := by decide +kernel
theorem dX12_count_76 : decode cX12_count 76 = .ok (.ireturn, 1) := by decide +kernel
theorem dX12_count_77 : decode cX12_count 77 = .ok (.aload_n 0, 1) := by decide +kernel
theorem dX12_count_78 : decode cX12_count 78 = .ok (.getfield 251, 3) := by decide +kernel
theorem dX12_count_81 : decode cX12_count 81 = .ok (.ireturn, 1) := by decide +kernel
theorem dX12_count_82 : decode cX12_count 82 = .ok (.aload_n 0, 1) := by decide +kernel
theorem dX12_count_83 : decode cX12_count 83 = .ok (.getfield 282, 3) := by decide +kernel
theorem dX12_count_86 : decode cX12_count 86 = .ok (.ireturn, 1) := by decide +kernel
theorem dX12_count_87 : decode cX12_count 87 = .ok (.aload_n 0, 1) := by decide +kernel
theorem dX12_count_88 : decode cX12_count 88 = .ok (.getfield 28, 3) := by decide +kernel
theorem dX12_count_91 : decode cX12_count 91 = .ok (.ireturn, 1) := by decide +kernel
theorem dX12_count_92 : decode cX12_count 92 = .ok (.aload_n 0, 1) := by decide +kernel
theorem dX12_count_93 : decode cX12_count 93 = .ok (.getfield 297, 3) := by decide +kernel
theorem dX12_count_96 : decode cX12_count 96 = .ok (.ireturn, 1) := by decide +kernel
theorem dX12_count_97 : decode cX12_count 97 = .ok (.bipush (-2), 2) := by decide +kernel
theorem dX12_count_99 : decode cX12_count 99 = .ok (.ireturn, 1) := by decide +kernel
theorem dX12_digest_0 : decode cX12_digest 0 = .ok (.ldc2_w 311, 3) := by decide +kernel
theorem dX12_digest_3 : decode cX12_digest 3 = .ok (.lstore_n 1, 1) := by decide +kernel
theorem dX12_digest_4 : decode cX12_digest 4 = .ok (.iconst 0, 1) := by decide +kernel
theorem dX12_digest_5 : decode cX12_digest 5 = .ok (.istore_n 3, 1) := by decide +kernel
theorem dX12_digest_6 : decode cX12_digest 6 = .ok (.iload_n 3, 1) := by decide +kernel
theorem dX12_digest_7 : decode cX12_digest 7 = .ok (.bipush 8, 2) := by decide +kernel
theorem dX12_digest_9 : decode cX12_digest 9 = .ok (.if_icmp .ge 22, 3) := by decide +kernel
theorem dX12_digest_12 : decode cX12_digest 12 = .ok (.ldc2_w 313, 3) := by decide +kernel
theorem dX12_digest_15 : decode cX12_digest 15 = .ok (.lload_n 1, 1) := by decide +kernel
theorem dX12_digest_16 : decode cX12_digest 16 = .ok (.lmul, 1) := by decide +kernel
theorem dX12_digest_17 : decode cX12_digest 17 = .ok (.aload_n 0, 1) := by decide +kernel
theorem dX12_digest_18 : decode cX12_digest 18 = .ok (.iload_n 3, 1) := by decide +kernel
theorem dX12_digest_19 : decode cX12_digest 19 = .ok (.invokevirtual 315, 3) := by decide +kernel
theorem dX12_digest_22 : decode cX12_digest 22 = .ok (.i2l, 1) := by decide +kernel
theorem dX12_digest_23 : decode cX12_digest 23 = .ok (.ladd, 1) := by decide +kernel
theorem dX12_digest_24 : decode cX12_digest 24 = .ok (.lstore_n 1, 1) := by decide +kernel
theorem dX12_digest_25 : decode cX12_digest 25 = .ok (.iinc 3 1, 3) := by decide +kernel
theorem dX12_digest_28 : decode cX12_digest 28 = .ok (.goto (-22), 3) := by decide +kernel
theorem dX12_digest_31 : decode cX12_digest 31 = .ok (.ldc2_w 313, 3) := by decide +kernel
theorem dX12_digest_34 : decode cX12_digest 34 = .ok (.lload_n 1, 1) := by decide +kernel
theorem dX12_digest_35 : decode cX12_digest 35 = .ok (.lmul, 1) := by decide +kernel
theorem dX12_digest_36 : decode cX12_digest 36 = .ok (.aload_n 0, 1) := by decide +kernel
theorem dX12_digest_37 : decode cX12_digest 37 = .ok (.invokevirtual 222, 3) := by decide +kernel
theorem dX12_digest_40 : decode cX12_digest 40 = .ok (.i2l, 1) := by decide +kernel
theorem dX12_digest_41 : decode cX12_digest 41 = .ok (.ladd, 1) := by decide +kernel
theorem dX12_digest_42 : decode cX12_digest 42 = .ok (.lstore_n 1, 1) := by decide +kernel
theorem dX12_digest_43 : decode cX12_digest 43 = .ok (.iconst (-1), 1) := by decide +kernel
theorem dX12_digest_44 : decode cX12_digest 44 = .ok (.istore_n 3, 1) := by decide +kernel
theorem dX12_digest_45 : decode cX12_digest 45 = .ok (.iload_n 3, 1) := by decide +kernel
theorem dX12_digest_46 : decode cX12_digest 46 = .ok (.iconst 4, 1) := by decide +kernel
theorem dX12_digest_47 : decode cX12_digest 47 = .ok (.if_icmp .ge 56, 3) := by decide +kernel
theorem dX12_digest_50 : decode cX12_digest 50 = .ok (.iconst 0, 1) := by decide +kernel
theorem dX12_digest_51 : decode cX12_digest 51 = .ok (.istore 4, 2) := by decide +kernel
theorem dX12_digest_53 : decode cX12_digest 53 = .ok (.iload 4, 2) := by decide +kernel
theorem dX12_digest_55 : decode cX12_digest 55 = .ok (.iconst 4, 1) := by decide +kernel
theorem dX12_digest_56 : decode cX12_digest 56 = .ok (.if_icmp .ge 41, 3) := by decide +kernel
theorem dX12_digest_59 : decode cX12_digest 59 = .ok (.ldc2_w 313, 3) := by decide +kernel
theorem dX12_digest_62 : decode cX12_digest 62 = .ok (.lload_n 1, 1) := by decide +kernel
theorem dX12_digest_63 : decode cX12_digest 63 = .ok (.lmul, 1) := by decide +kernel
theorem dX12_digest_64 : decode cX12_digest 64 = .ok (.aload_n 0, 1) := by decide +kernel
theorem dX12_digest_65 : decode cX12_digest 65 = .ok (.iload_n 3, 1) := by decide +kernel
theorem dX12_digest_66 : decode cX12_digest 66 = .ok (.iload 4, 2) := by decide +kernel
theorem dX12_digest_68 : decode cX12_digest 68 = .ok (.iconst 0, 1) := by decide +kernel
theorem dX12_digest_69 : decode cX12_digest 69 = .ok (.invokevirtual 157, 3) := by decide +kernel
theorem dX12_digest_72 : decode cX12_digest 72 = .ok (.i2l, 1) := by decide +kernel
theorem dX12_digest_73 : decode cX12_digest 73 = .ok (.ladd, 1) := by decide +kernel
theorem dX12_digest_74 : decode cX12_digest 74 = .ok (.lstore_n 1, 1) := by decide +kernel
theorem dX12_digest_75 : decode cX12_digest 75 = .ok (.ldc2_w 313, 3) := by decide +kernel
theorem dX12_digest_78 : decode cX12_digest 78 = .ok (.lload_n 1, 1) := by decide +kernel
theorem dX12_digest_79 : decode cX12_digest 79 = .ok (.lmul, 1) := by decide +kernel
theorem dX12_digest_80 : decode cX12_digest 80 = .ok (.aload_n 0, 1) := by decide +kernel
theorem dX12_digest_81 : decode cX12_digest 81 = .ok (.iload_n 3, 1) := by decide +kernel
theorem dX12_digest_82 : decode cX12_digest 82 = .ok (.iload 4, 2) := by decide +kernel
theorem dX12_digest_84 : decode cX12_digest 84 = .ok (.iconst 1, 1) := by decide +kernel
theorem dX12_digest_85 : decode cX12_digest 85 = .ok (.invokevirtual 157, 3) := by decide +kernel
theorem dX12_digest_88 : decode cX12_digest 88 = .ok (.i2l, 1) := by decide +kernel
theorem dX12_digest_89 : decode cX12_digest 89 = .ok (.ladd, 1) := by decide +kernel
theorem dX12_digest_90 : decode cX12_digest 90 = .ok (.lstore_n 1, 1) := by decide +kernel
theorem dX12_digest_91 : decode cX12_digest 91 = .ok (.iinc 4 1, 3) := by decide +kernel
theorem dX12_digest_94 : decode cX12_digest 94 = .ok (.goto (-41), 3) := by decide +kernel
theorem dX12_digest_97 : decode cX12_digest 97 = .ok (.iinc 3 1, 3) := by decide +kernel
theorem dX12_digest_100 : decode cX12_digest 100 = .ok (.goto (-55), 3) := by decide +kernel
theorem dX12_digest_103 : decode cX12_digest 103 = .ok (.ldc2_w 313, 3) := by decide +kernel
theorem dX12_digest_106 : decode cX12_digest 106 = .ok (.lload_n 1, 1) := by decide +kernel
theorem dX12_digest_107 : decode cX12_digest 107 = .ok (.lmul, 1) := by decide +kernel
theorem dX12_digest_108 : decode cX12_digest 108 = .ok (.aload_n 0, 1) := by decide +kernel
theorem dX12_digest_109 : decode cX12_digest 109 = .ok (.iconst (-1), 1) := by decide +kernel
theorem dX12_digest_110 : decode cX12_digest 110 = .ok (.iconst 0, 1) := by decide +kernel
theorem dX12_digest_111 : decode cX12_digest 111 = .ok (.iconst 0, 1) := by decide +kernel
theorem dX12_digest_112 : decode cX12_digest 112 = .ok (.invokevirtual 172, 3) := by decide +kernel
theorem dX12_digest_115 : decode cX12_digest 115 = .ok (.ladd, 1) := by decide +kernel
theorem dX12_digest_116 : decode cX12_digest 116 = .ok (.lstore_n 1, 1) := by decide +kernel
theorem dX12_digest_117 : decode cX12_digest 117 = .ok (.ldc2_w 313, 3) := by decide +kernel
theorem dX12_digest_120 : decode cX12_digest 120 = .ok (.lload_n 1, 1) := by decide +kernel
theorem dX12_digest_121 : decode cX12_digest 121 = .ok (.lmul, 1) := by decide +kernel
theorem dX12_digest_122 : decode cX12_digest 122 = .ok (.aload_n 0, 1) := by decide +kernel
theorem dX12_digest_123 : decode cX12_digest 123 = .ok (.iconst (-1), 1) := by decide +kernel
theorem dX12_digest_124 : decode cX12_digest 124 = .ok (.iconst 0, 1) := by decide +kernel
theorem dX12_digest_125 : decode cX12_digest 125 = .ok (.iconst 1, 1) := by decide +kernel
theorem dX12_digest_126 : decode cX12_digest 126 = .ok (.invokevirtual 172, 3) := by decide +kernel
theorem dX12_digest_129 : decode cX12_digest 129 = .ok (.ladd, 1) := by decide +kernel
theorem dX12_digest_130 : decode cX12_digest 130 = .ok (.lstore_n 1, 1) := by decide +kernel
theorem dX12_digest_131 : decode cX12_digest 131 = .ok (.ldc2_w 313, 3) := by decide +kernel
theorem dX12_digest_134 : decode cX12_digest 134 = .ok (.lload_n 1, 1) := by decide +kernel
theorem dX12_digest_135 : decode cX12_digest 135 = .ok (.lmul, 1) := by decide +kernel
theorem dX12_digest_136 : decode cX12_digest 136 = .ok (.aload_n 0, 1) := by decide +kernel
theorem dX12_digest_137 : decode cX12_digest 137 = .ok (.iconst (-1), 1) := by decide +kernel
theorem dX12_digest_138 : decode cX12_digest 138 = .ok (.invokevirtual 192, 3) := by decide +kernel
theorem dX12_digest_141 : decode cX12_digest 141 = .ok (.i2l, 1) := by decide +kernel
theorem dX12_digest_142 : decode cX12_digest 142 = .ok (.ladd, 1) := by decide +kernel
theorem dX12_digest_143 : decode cX12_digest 143 = .ok (.lstore_n 1, 1) := by decide +kernel
theorem dX12_digest_144 : decode cX12_digest 144 = .ok (.iconst 0, 1) := by decide +kernel
theorem dX12_digest_145 : decode cX12_digest 145 = .ok (.istore_n 3, 1) := by decide +kernel
theorem dX12_digest_146 : decode cX12_digest 146 = .ok (.iload_n 3, 1) := by decide +kernel
theorem dX12_digest_147 : decode cX12_digest 147 = .ok (.aload_n 0, 1) := by decide +kernel
theorem dX12_digest_148 : decode cX12_digest 148 = .ok (.getfield 176, 3) := by decide +kernel
theorem dX12_digest_151 : decode cX12_digest 151 = .ok (.if_icmp .ge 39, 3) := by decide +kernel
theorem dX12_digest_154 : decode cX12_digest 154 = .ok (.iconst 0, 1) := by decide +kernel
theorem dX12_digest_155 : decode cX12_digest 155 = .ok (.istore 4, 2) := by decide +kernel
theorem dX12_digest_157 : decode cX12_digest 157 = .ok (.iload 4, 2) := by decide +kernel
theorem dX12_digest_159 : decode cX12_digest 159 = .ok (.iconst 3, 1) := by decide +kernel
theorem dX12_digest_160 : decode cX12_digest 160 = .ok (.if_icmp .ge 24, 3) := by decide +kernel
theorem dX12_digest_163 : decode cX12_digest 163 = .ok (.ldc2_w 313, 3) := by decide +kernel
theorem dX12_digest_166 : decode cX12_digest 166 = .ok (.lload_n 1, 1) := by decide +kernel
theorem dX12_digest_167 : decode cX12_digest 167 = .ok (.lmul, 1) := by decide +kernel
theorem dX12_digest_168 : decode cX12_digest 168 = .ok (.aload_n 0, 1) := by decide +kernel
theorem dX12_digest_169 : decode cX12_digest 169 = .ok (.iload_n 3, 1) := by decide +kernel
theorem dX12_digest_170 : decode cX12_digest 170 = .ok (.iload 4, 2) := by decide +kernel
theorem dX12_digest_172 : decode cX12_digest 172 = .ok (.invokevirtual 183, 3) := by decide +kernel
theorem dX12_digest_175 : decode cX12_digest 175 = .ok (.i2l, 1) := by decide +kernel
theorem dX12_digest_176 : decode cX12_digest 176 = .ok (.ladd, 1) := by decide +kernel
theorem dX12_digest_177 : decode cX12_digest 177 = .ok (.lstore_n 1, 1) := by decide +kernel
theorem dX12_digest_178 : decode cX12_digest 178 = .ok (.iinc 4 1, 3) := by decide +kernel
theorem dX12_digest_181 : decode cX12_digest 181 = .ok (.goto (-24), 3) := by decide +kernel
theorem dX12_digest_184 : decode cX12_digest 184 = .ok (.iinc 3 1, 3) := by decide +kernel
theorem dX12_digest_187 : decode cX12_digest 187 = .ok (.goto (-41), 3) := by decide +kernel
theorem dX12_digest_190 : decode cX12_digest 190 = .ok (.iconst 0, 1) := by decide +kernel
theorem dX12_digest_191 : decode cX12_digest 191 = .ok (.istore_n 3, 1) := by decide +kernel
theorem dX12_digest_192 : decode cX12_digest 192 = .ok (.iload_n 3, 1) := by decide +kernel
theorem dX12_digest_193 : decode cX12_digest 193 = .ok (.aload_n 0, 1) := by decide +kernel
theorem dX12_digest_194 : decode cX12_digest 194 = .ok (.getfield 195, 3) := by decide +kernel
theorem dX12_digest_197 : decode cX12_digest 197 = .ok (.if_icmp .ge 22, 3) := by decide +kernel
theorem dX12_digest_200 : decode cX12_digest 200 = .ok (.ldc2_w 313, 3) := by decide +kernel
theorem dX12_digest_203 : decode cX12_digest 203 = .ok (.lload_n 1, 1) := by decide +kernel
theorem dX12_digest_204 : decode cX12_digest 204 = .ok (.lmul, 1) := by decide +kernel
theorem dX12_digest_205 : decode cX12_digest 205 = .ok (.aload_n 0, 1) := by decide +kernel
theorem dX12_digest_206 : decode cX12_digest 206 = .ok (.iload_n 3, 1) := by decide +kernel
theorem dX12_digest_207 : decode cX12_digest 207 = .ok (.invokevirtual 201, 3) := by decide +kernel
theorem dX12_digest_210 : decode cX12_digest 210 = .ok (.i2l, 1) := by decide +kernel
theorem dX12_digest_211 : decode cX12_digest 211 = .ok (.ladd, 1) := by decide +kernel
theorem dX12_digest_212 : decode cX12_digest 212 = .ok (.lstore_n 1, 1) := by decide +kernel
theorem dX12_digest_213 : decode cX12_digest 213 = .ok (.iinc 3 1, 3) := by decide +kernel
theorem dX12_digest_216 : decode cX12_digest 216 = .ok (.goto (-24), 3) := by decide +kernel
theorem dX12_digest_219 : decode cX12_digest 219 = .ok (.iconst 0, 1) := by decide +kernel
theorem dX12_digest_220 : decode cX12_digest 220 = .ok (.istore_n 3, 1) := by decide +kernel
theorem dX12_digest_221 : decode cX12_digest 221 = .ok (.iload_n 3, 1) := by decide +kernel
theorem dX12_digest_222 : decode cX12_digest 222 = .ok (.bipush 6, 2) := by decide +kernel
theorem dX12_digest_224 : decode cX12_digest 224 = .ok (.if_icmp .ge 23, 3) := by decide +kernel
theorem dX12_digest_227 : decode cX12_digest 227 = .ok (.ldc2_w 313, 3) := by decide +kernel
theorem dX12_digest_230 : decode cX12_digest 230 = .ok (.lload_n 1, 1) := by decide +kernel
theorem dX12_digest_231 : decode cX12_digest 231 = .ok (.lmul, 1) := by decide +kernel
theorem dX12_digest_232 : decode cX12_digest 232 = .ok (.aload_n 0, 1) := by decide +kernel
theorem dX12_digest_233 : decode cX12_digest 233 = .ok (.iconst 0, 1) := by decide +kernel
theorem dX12_digest_234 : decode cX12_digest 234 = .ok (.iload_n 3, 1) := by decide +kernel
theorem dX12_digest_235 : decode cX12_digest 235 = .ok (.invokevirtual 240, 3) := by decide +kernel
theorem dX12_digest_238 : decode cX12_digest 238 = .ok (.i2l, 1) := by decide +kernel
theorem dX12_digest_239 : decode cX12_digest 239 = .ok (.ladd, 1) := by decide +kernel
theorem dX12_digest_240 : decode cX12_digest 240 = .ok (.lstore_n 1, 1) := by decide +kernel
theorem dX12_digest_241 : decode cX12_digest 241 = .ok (.iinc 3 1, 3) := by decide +kernel
theorem dX12_digest_244 : decode cX12_digest 244 = .ok (.goto (-23), 3) := by decide +kernel
theorem dX12_digest_247 : decode cX12_digest 247 = .ok (.iconst 0, 1) := by decide +kernel
theorem dX12_digest_248 : decode cX12_digest 248 = .ok (.istore_n 3, 1) := by decide +kernel
theorem dX12_digest_249 : decode cX12_digest 249 = .ok (.iload_n 3, 1) := by decide +kernel
theorem dX12_digest_250 : decode cX12_digest 250 = .ok (.iconst 3, 1) := by decide +kernel
theorem dX12_digest_251 : decode cX12_digest 251 = .ok (.if_icmp .ge 23, 3) := by decide +kernel
theorem dX12_digest_254 : decode cX12_digest 254 = .ok (.ldc2_w 313, 3) := by decide +kernel
theorem dX12_digest_257 : decode cX12_digest 257 = .ok (.lload_n 1, 1) := by decide +kernel
theorem dX12_digest_258 : decode cX12_digest 258 = .ok (.lmul, 1) := by decide +kernel
theorem dX12_digest_259 : decode cX12_digest 259 = .ok (.aload_n 0, 1) := by decide +kernel
theorem dX12_digest_260 : decode cX12_digest 260 = .ok (.iconst 4, 1) := by decide +kernel
theorem dX12_digest_261 : decode cX12_digest 261 = .ok (.iload_n 3, 1) := by decide +kernel
theorem dX12_digest_262 : decode cX12_digest 262 = .ok (.invokevirtual 240, 3) := by decide +kernel
theorem dX12_digest_265 : decode cX12_digest 265 = .ok (.i2l, 1) := by decide +kernel
theorem dX12_digest_266 : decode cX12_digest 266 = .ok (.ladd, 1) := by decide +kernel
theorem dX12_digest_267 : decode cX12_digest 267 = .ok (.lstore_n 1, 1) := by decide +kernel
theorem dX12_digest_268 : decode cX12_digest 268 = .ok (.iinc 3 1, 3) := by decide +kernel
theorem dX12_digest_271 : decode cX12_digest 271 = .ok (.goto (-22), 3) := by decide +kernel
theorem dX12_digest_274 : decode cX12_digest 274 = .ok (.ldc2_w 313, 3) := by decide +kernel
theorem dX12_digest_277 : decode cX12_digest 277 = .ok (.lload_n 1, 1) := by decide +kernel
theorem dX12_digest_278 : decode cX12_digest 278 = .ok (.lmul, 1) := by decide +kernel
theorem dX12_digest_279 : decode cX12_digest 279 = .ok (.aload_n 0, 1) := by decide +kernel
theorem dX12_digest_280 : decode cX12_digest 280 = .ok (.invokevirtual 243, 3) := by decide +kernel
theorem dX12_digest_283 : decode cX12_digest 283 = .ok (.i2l, 1) := by decide +kernel
theorem dX12_digest_284 : decode cX12_digest 284 = .ok (.ladd, 1) := by decide +kernel
theorem dX12_digest_285 : decode cX12_digest 285 = .ok (.lstore_n 1, 1) := by decide +kernel
theorem dX12_digest_286 : decode cX12_digest 286 = .ok (.iconst 0, 1) := by decide +kernel
theorem dX12_digest_287 : decode cX12_digest 287 = .ok (.istore_n 3, 1) := by decide +kernel
theorem dX12_digest_288 : decode cX12_digest 288 = .ok (.iload_n 3, 1) := by decide +kernel
theorem dX12_digest_289 : decode cX12_digest 289 = .ok (.aload_n 0, 1) := by decide +kernel
theorem dX12_digest_290 : decode cX12_digest 290 = .ok (.getfield 251, 3) := by decide +kernel
theorem dX12_digest_293 : decode cX12_digest 293 = .ok (.if_icmp .ge 22, 3) := by decide +kernel
theorem dX12_digest_296 : decode cX12_digest 296 = .ok (.ldc2_w 313, 3) := by decide +kernel
theorem dX12_digest_299 : decode cX12_digest 299 = .ok (.lload_n 1, 1) := by decide +kernel
theorem dX12_digest_300 : decode cX12_digest 300 = .ok (.lmul, 1) := by decide +kernel
theorem dX12_digest_301 : decode cX12_digest 301 = .ok (.aload_n 0, 1) := by decide +kernel
theorem dX12_digest_302 : decode cX12_digest 302 = .ok (.iload_n 3, 1) := by decide +kernel
theorem dX12_digest_303 : decode cX12_digest 303 = .ok (.invokevirtual 266, 3) := by decide +kernel
theorem dX12_digest_306 : decode cX12_digest 306 = .ok (.i2l, 1) := by decide +kernel
theorem dX12_digest_307 : decode cX12_digest 307 = .ok (.ladd, 1) := by decide +kernel
theorem dX12_digest_308 : decode cX12_digest 308 = .ok (.lstore_n 1, 1) := by decide +kernel
theorem dX12_digest_309 : decode cX12_digest 309 = .ok (.iinc 3 1, 3) := by decide +kernel
theorem dX12_digest_312 : decode cX12_digest 312 = .ok (.goto (-24), 3) := by decide +kernel
theorem dX12_digest_315 : decode cX12_digest 315 = .ok (.ldc2_w 313, 3) := by decide +kernel
theorem dX12_digest_318 : decode cX12_digest 318 = .ok (.lload_n 1, 1) := by decide +kernel
theorem dX12_digest_319 : decode cX12_digest 319 = .ok (.lmul, 1) := by decide +kernel
theorem dX12_digest_320 : decode cX12_digest 320 = .ok (.aload_n 0, 1) := by decide +kernel
theorem dX12_digest_321 : decode cX12_digest 321 = .ok (.invokevirtual 272, 3) := by decide +kernel
theorem dX12_digest_324 : decode cX12_digest 324 = .ok (.i2l, 1) := by decide +kernel
theorem dX12_digest_325 : decode cX12_digest 325 = .ok (.ladd, 1) := by decide +kernel
theorem dX12_digest_326 : decode cX12_digest 326 = .ok (.lstore_n 1, 1) := by decide +kernel
theorem dX12_digest_327 : decode cX12_digest 327 = .ok (.iconst 0, 1) := by decide +kernel
theorem dX12_digest_328 : decode cX12_digest 328 = .ok (.istore_n 3, 1) := by decide +kernel
theorem dX12_digest_329 : decode cX12_digest 329 = .ok (.iload_n 3, 1) := by decide +kernel
theorem dX12_digest_330 : decode cX12_digest 330 = .ok (.iconst 5, 1) := by decide +kernel
theorem dX12_digest_331 : decode cX12_digest 331 = .ok (.if_icmp .ge 22, 3) := by decide +kernel
theorem dX12_digest_334 : decode cX12_digest 334 = .ok (.ldc2_w 313, 3) := by decide +kernel
theorem dX12_digest_337 : decode cX12_digest 337 = .ok (.lload_n 1, 1) := by decide +kernel
theorem dX12_digest_338 : decode cX12_digest 338 = .ok (.lmul, 1) := by decide +kernel
theorem dX12_digest_339 : decode cX12_digest 339 = .ok (.aload_n 0, 1) := by decide +kernel
theorem dX12_digest_340 : decode cX12_digest 340 = .ok (.iload_n 3, 1) := by decide +kernel
theorem dX12_digest_341 : decode cX12_digest 341 = .ok (.invokevirtual 294, 3) := by decide +kernel
theorem dX12_digest_344 : decode cX12_digest 344 = .ok (.i2l, 1) := by decide +kernel
theorem dX12_digest_345 : decode cX12_digest 345 = .ok (.ladd, 1) := by decide +kernel
theorem dX12_digest_346 : decode cX12_digest 346 = .ok (.lstore_n 1, 1) := by decide +kernel
theorem dX12_digest_347 : decode cX12_digest 347 = .ok (.iinc 3 1, 3) := by decide +kernel
theorem dX12_digest_350 : decode cX12_digest 350 = .ok (.goto (-21), 3) := by decide +kernel
theorem dX12_digest_353 : decode cX12_digest 353 = .ok (.lload_n 1, 1) := by decide +kernel
theorem dX12_digest_354 : decode cX12_digest 354 = .ok (.lreturn, 1) := by decide +kernel
