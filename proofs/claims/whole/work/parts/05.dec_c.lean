theorem dX10_init_0 : decode cX10_init 0 = .ok (.aload_n 0, 1) := by decide +kernel
theorem dX10_init_1 : decode cX10_init 1 = .ok (.invokespecial 1, 3) := by decide +kernel
theorem dX10_init_4 : decode cX10_init 4 = .ok (.aload_n 0, 1) := by decide +kernel
theorem dX10_init_5 : decode cX10_init 5 = .ok (.bipush 6, 2) := by decide +kernel
theorem dX10_init_7 : decode cX10_init 7 = .ok (.newarray .int, 2) := by decide +kernel
theorem dX10_init_9 : decode cX10_init 9 = .ok (.putfield 7, 3) := by decide +kernel
theorem dX10_init_12 : decode cX10_init 12 = .ok (.aload_n 0, 1) := by decide +kernel
theorem dX10_init_13 : decode cX10_init 13 = .ok (.lconst 1, 1) := by decide +kernel
theorem dX10_init_14 : decode cX10_init 14 = .ok (.putfield 13, 3) := by decide +kernel
theorem dX10_init_17 : decode cX10_init 17 = .ok (.aload_n 0, 1) := by decide +kernel
theorem dX10_init_18 : decode cX10_init 18 = .ok (.bipush 6, 2) := by decide +kernel
theorem dX10_init_20 : decode cX10_init 20 = .ok (.newarray .int, 2) := by decide +kernel
theorem dX10_init_22 : decode cX10_init 22 = .ok (.putfield 17, 3) := by decide +kernel
theorem dX10_init_25 : decode cX10_init 25 = .ok (.aload_n 0, 1) := by decide +kernel
theorem dX10_init_26 : decode cX10_init 26 = .ok (.sipush 240, 3) := by decide +kernel
theorem dX10_init_29 : decode cX10_init 29 = .ok (.newarray .int, 2) := by decide +kernel
theorem dX10_init_31 : decode cX10_init 31 = .ok (.putfield 20, 3) := by decide +kernel
theorem dX10_init_34 : decode cX10_init 34 = .ok (.aload_n 0, 1) := by decide +kernel
theorem dX10_init_35 : decode cX10_init 35 = .ok (.bipush 40, 2) := by decide +kernel
theorem dX10_init_37 : decode cX10_init 37 = .ok (.newarray .int, 2) := by decide +kernel
theorem dX10_init_39 : decode cX10_init 39 = .ok (.putfield 23, 3) := by decide +kernel
theorem dX10_init_42 : decode cX10_init 42 = .ok (.aload_n 0, 1) := by decide +kernel
theorem dX10_init_43 : decode cX10_init 43 = .ok (.iconst 4, 1) := by decide +kernel
theorem dX10_init_44 : decode cX10_init 44 = .ok (.newarray .int, 2) := by decide +kernel
theorem dX10_init_46 : decode cX10_init 46 = .ok (.putfield 26, 3) := by decide +kernel
theorem dX10_init_49 : decode cX10_init 49 = .ok (.aload_n 0, 1) := by decide +kernel
theorem dX10_init_50 : decode cX10_init 50 = .ok (.sipush 240, 3) := by decide +kernel
theorem dX10_init_53 : decode cX10_init 53 = .ok (.newarray .int, 2) := by decide +kernel
theorem dX10_init_55 : decode cX10_init 55 = .ok (.putfield 29, 3) := by decide +kernel
theorem dX10_init_58 : decode cX10_init 58 = .ok (.aload_n 0, 1) := by decide +kernel
theorem dX10_init_59 : decode cX10_init 59 = .ok (.bipush 12, 2) := by decide +kernel
theorem dX10_init_61 : decode cX10_init 61 = .ok (.newarray .int, 2) := by decide +kernel
theorem dX10_init_63 : decode cX10_init 63 = .ok (.putfield 32, 3) := by decide +kernel
theorem dX10_init_66 : decode cX10_init 66 = .ok (.aload_n 0, 1) := by decide +kernel
theorem dX10_init_67 : decode cX10_init 67 = .ok (.bipush 12, 2) := by decide +kernel
theorem dX10_init_69 : decode cX10_init 69 = .ok (.newarray .int, 2) := by decide +kernel
theorem dX10_init_71 : decode cX10_init 71 = .ok (.putfield 35, 3) := by decide +kernel
theorem dX10_init_74 : decode cX10_init 74 = .ok (.aload_n 0, 1) := by decide +kernel
theorem dX10_init_75 : decode cX10_init 75 = .ok (.bipush 12, 2) := by decide +kernel
theorem dX10_init_77 : decode cX10_init 77 = .ok (.newarray .int, 2) := by decide +kernel
theorem dX10_init_79 : decode cX10_init 79 = .ok (.putfield 38, 3) := by decide +kernel
theorem dX10_init_82 : decode cX10_init 82 = .ok (.aload_n 0, 1) := by decide +kernel
theorem dX10_init_83 : decode cX10_init 83 = .ok (.bipush 12, 2) := by decide +kernel
theorem dX10_init_85 : decode cX10_init 85 = .ok (.newarray .int, 2) := by decide +kernel
theorem dX10_init_87 : decode cX10_init 87 = .ok (.putfield 41, 3) := by decide +kernel
theorem dX10_init_90 : decode cX10_init 90 = .ok (.aload_n 0, 1) := by decide +kernel
theorem dX10_init_91 : decode cX10_init 91 = .ok (.bipush 12, 2) := by decide +kernel
theorem dX10_init_93 : decode cX10_init 93 = .ok (.newarray .int, 2) := by decide +kernel
theorem dX10_init_95 : decode cX10_init 95 = .ok (.putfield 44, 3) := by decide +kernel
theorem dX10_init_98 : decode cX10_init 98 = .ok (.aload_n 0, 1) := by decide +kernel
theorem dX10_init_99 : decode cX10_init 99 = .ok (.bipush 12, 2) := by decide +kernel
theorem dX10_init_101 : decode cX10_init 101 = .ok (.newarray .int, 2) := by decide +kernel
theorem dX10_init_103 : decode cX10_init 103 = .ok (.putfield 47, 3) := by decide +kernel
theorem dX10_init_106 : decode cX10_init 106 = .ok (.aload_n 0, 1) := by decide +kernel
theorem dX10_init_107 : decode cX10_init 107 = .ok (.bipush 8, 2) := by decide +kernel
theorem dX10_init_109 : decode cX10_init 109 = .ok (.newarray .int, 2) := by decide +kernel
theorem dX10_init_111 : decode cX10_init 111 = .ok (.putfield 50, 3) := by decide +kernel
theorem dX10_init_114 : decode cX10_init 114 = .ok (.aload_n 0, 1) := by decide +kernel
theorem dX10_init_115 : decode cX10_init 115 = .ok (.bipush 8, 2) := by decide +kernel
theorem dX10_init_117 : decode cX10_init 117 = .ok (.newarray .int, 2) := by decide +kernel
theorem dX10_init_119 : decode cX10_init 119 = .ok (.putfield 53, 3) := by decide +kernel
theorem dX10_init_122 : decode cX10_init 122 = .ok (.aload_n 0, 1) := by decide +kernel
theorem dX10_init_123 : decode cX10_init 123 = .ok (.bipush 8, 2) := by decide +kernel
theorem dX10_init_125 : decode cX10_init 125 = .ok (.newarray .int, 2) := by decide +kernel
theorem dX10_init_127 : decode cX10_init 127 = .ok (.putfield 56, 3) := by decide +kernel
theorem dX10_init_130 : decode cX10_init 130 = .ok (.aload_n 0, 1) := by decide +kernel
theorem dX10_init_131 : decode cX10_init 131 = .ok (.bipush 12, 2) := by decide +kernel
theorem dX10_init_133 : decode cX10_init 133 = .ok (.newarray .int, 2) := by decide +kernel
theorem dX10_init_135 : decode cX10_init 135 = .ok (.putfield 59, 3) := by decide +kernel
theorem dX10_init_138 : decode cX10_init 138 = .ok (.aload_n 0, 1) := by decide +kernel
theorem dX10_init_139 : decode cX10_init 139 = .ok (.sipush 1200, 3) := by decide +kernel
theorem dX10_init_142 : decode cX10_init 142 = .ok (.newarray .boolean, 2) := by decide +kernel
theorem dX10_init_144 : decode cX10_init 144 = .ok (.putfield 62, 3) := by decide +kernel
theorem dX10_init_147 : decode cX10_init 147 = .ok (.aload_n 0, 1) := by decide +kernel
theorem dX10_init_148 : decode cX10_init 148 = .ok (.bipush 12, 2) := by decide +kernel
theorem dX10_init_150 : decode cX10_init 150 = .ok (.newarray .int, 2) := by decide +kernel
theorem dX10_init_152 : decode cX10_init 152 = .ok (.putfield 66, 3) := by decide +kernel
theorem dX10_init_155 : decode cX10_init 155 = .ok (.aload_n 0, 1) := by decide +kernel
theorem dX10_init_156 : decode cX10_init 156 = .ok (.bipush 12, 2) := by decide +kernel
theorem dX10_init_158 : decode cX10_init 158 = .ok (.newarray .int, 2) := by decide +kernel
theorem dX10_init_160 : decode cX10_init 160 = .ok (.putfield 69, 3) := by decide +kernel
theorem dX10_init_163 : decode cX10_init 163 = .ok (.aload_n 0, 1) := by decide +kernel
theorem dX10_init_164 : decode cX10_init 164 = .ok (.bipush 12, 2) := by decide +kernel
theorem dX10_init_166 : decode cX10_init 166 = .ok (.newarray .int, 2) := by decide +kernel
theorem dX10_init_168 : decode cX10_init 168 = .ok (.putfield 72, 3) := by decide +kernel
theorem dX10_init_171 : decode cX10_init 171 = .ok (.aload_n 0, 1) := by decide +kernel
theorem dX10_init_172 : decode cX10_init 172 = .ok (.bipush 12, 2) := by decide +kernel
theorem dX10_init_174 : decode cX10_init 174 = .ok (.newarray .int, 2) := by decide +kernel
theorem dX10_init_176 : decode cX10_init 176 = .ok (.putfield 75, 3) := by decide +kernel
theorem dX10_init_179 : decode cX10_init 179 = .ok (.aload_n 0, 1) := by decide +kernel
theorem dX10_init_180 : decode cX10_init 180 = .ok (.bipush 12, 2) := by decide +kernel
theorem dX10_init_182 : decode cX10_init 182 = .ok (.newarray .int, 2) := by decide +kernel
theorem dX10_init_184 : decode cX10_init 184 = .ok (.putfield 78, 3) := by decide +kernel
theorem dX10_init_187 : decode cX10_init 187 = .ok (.aload_n 0, 1) := by decide +kernel
theorem dX10_init_188 : decode cX10_init 188 = .ok (.sipush 1200, 3) := by decide +kernel
theorem dX10_init_191 : decode cX10_init 191 = .ok (.newarray .int, 2) := by decide +kernel
theorem dX10_init_193 : decode cX10_init 193 = .ok (.putfield 81, 3) := by decide +kernel
theorem dX10_init_196 : decode cX10_init 196 = .ok (.aload_n 0, 1) := by decide +kernel
theorem dX10_init_197 : decode cX10_init 197 = .ok (.bipush 10, 2) := by decide +kernel
theorem dX10_init_199 : decode cX10_init 199 = .ok (.newarray .int, 2) := by decide +kernel
theorem dX10_init_201 : decode cX10_init 201 = .ok (.putfield 84, 3) := by decide +kernel
theorem dX10_init_204 : decode cX10_init 204 = .ok (.aload_n 0, 1) := by decide +kernel
theorem dX10_init_205 : decode cX10_init 205 = .ok (.bipush 12, 2) := by decide +kernel
theorem dX10_init_207 : decode cX10_init 207 = .ok (.newarray .int, 2) := by decide +kernel
theorem dX10_init_209 : decode cX10_init 209 = .ok (.putfield 87, 3) := by decide +kernel
theorem dX10_init_212 : decode cX10_init 212 = .ok (.aload_n 0, 1) := by decide +kernel
theorem dX10_init_213 : decode cX10_init 213 = .ok (.sipush 4096, 3) := by decide +kernel
theorem dX10_init_216 : decode cX10_init 216 = .ok (.newarray .int, 2) := by decide +kernel
theorem dX10_init_218 : decode cX10_init 218 = .ok (.putfield 90, 3) := by decide +kernel
theorem dX10_init_221 : decode cX10_init 221 = .ok (.aload_n 0, 1) := by decide +kernel
theorem dX10_init_222 : decode cX10_init 222 = .ok (.sipush 4096, 3) := by decide +kernel
theorem dX10_init_225 : decode cX10_init 225 = .ok (.newarray .int, 2) := by decide +kernel
theorem dX10_init_227 : decode cX10_init 227 = .ok (.putfield 93, 3) := by decide +kernel
theorem dX10_init_230 : decode cX10_init 230 = .ok (.iconst 0, 1) := by decide +kernel
theorem dX10_init_231 : decode cX10_init 231 = .ok (.istore_n 1, 1) := by decide +kernel
theorem dX10_init_232 : decode cX10_init 232 = .ok (.iload_n 1, 1) := by decide +kernel
theorem dX10_init_233 : decode cX10_init 233 = .ok (.bipush 6, 2) := by decide +kernel
theorem dX10_init_235 : decode cX10_init 235 = .ok (.if_icmp .ge 17, 3) := by decide +kernel
theorem dX10_init_238 : decode cX10_init 238 = .ok (.aload_n 0, 1) := by decide +kernel
theorem dX10_init_239 : decode cX10_init 239 = .ok (.getfield 17, 3) := by decide +kernel
theorem dX10_init_242 : decode cX10_init 242 = .ok (.iload_n 1, 1) := by decide +kernel
theorem dX10_init_243 : decode cX10_init 243 = .ok (.bipush (-9), 2) := by decide +kernel
theorem dX10_init_245 : decode cX10_init 245 = .ok (.iastore, 1) := by decide +kernel
theorem dX10_init_246 : decode cX10_init 246 = .ok (.iinc 1 1, 3) := by decide +kernel
theorem dX10_init_249 : decode cX10_init 249 = .ok (.goto (-17), 3) := by decide +kernel
theorem dX10_init_252 : decode cX10_init 252 = .ok (.iconst 0, 1) := by decide +kernel
theorem dX10_init_253 : decode cX10_init 253 = .ok (.istore_n 1, 1) := by decide +kernel
theorem dX10_init_254 : decode cX10_init 254 = .ok (.iload_n 1, 1) := by decide +kernel
theorem dX10_init_255 : decode cX10_init 255 = .ok (.iconst 4, 1) := by decide +kernel
theorem dX10_init_256 : decode cX10_init 256 = .ok (.if_icmp .ge 17, 3) := by decide +kernel
theorem dX10_init_259 : decode cX10_init 259 = .ok (.aload_n 0, 1) := by decide +kernel
theorem dX10_init_260 : decode cX10_init 260 = .ok (.getfield 26, 3) := by decide +kernel
theorem dX10_init_263 : decode cX10_init 263 = .ok (.iload_n 1, 1) := by decide +kernel
theorem dX10_init_264 : decode cX10_init 264 = .ok (.bipush (-9), 2) := by decide +kernel
theorem dX10_init_266 : decode cX10_init 266 = .ok (.iastore, 1) := by decide +kernel
theorem dX10_init_267 : decode cX10_init 267 = .ok (.iinc 1 1, 3) := by decide +kernel
theorem dX10_init_270 : decode cX10_init 270 = .ok (.goto (-16), 3) := by decide +kernel
theorem dX10_init_273 : decode cX10_init 273 = .ok (.iconst 0, 1) := by decide +kernel
theorem dX10_init_274 : decode cX10_init 274 = .ok (.istore_n 1, 1) := by decide +kernel
theorem dX10_init_275 : decode cX10_init 275 = .ok (.iload_n 1, 1) := by decide +kernel
theorem dX10_init_276 : decode cX10_init 276 = .ok (.bipush 12, 2) := by decide +kernel
theorem dX10_init_278 : decode cX10_init 278 = .ok (.if_icmp .ge 17, 3) := by decide +kernel
theorem dX10_init_281 : decode cX10_init 281 = .ok (.aload_n 0, 1) := by decide +kernel
theorem dX10_init_282 : decode cX10_init 282 = .ok (.getfield 41, 3) := by decide +kernel
theorem dX10_init_285 : decode cX10_init 285 = .ok (.iload_n 1, 1) := by decide +kernel
theorem dX10_init_286 : decode cX10_init 286 = .ok (.bipush (-9), 2) := by decide +kernel
theorem dX10_init_288 : decode cX10_init 288 = .ok (.iastore, 1) := by decide +kernel
theorem dX10_init_289 : decode cX10_init 289 = .ok (.iinc 1 1, 3) := by decide +kernel
theorem dX10_init_292 : decode cX10_init 292 = .ok (.goto (-17), 3) := by decide +kernel
theorem dX10_init_295 : decode cX10_init 295 = .ok (.return_, 1) := by decide +kernel
theorem dX10_in_0 : decode cX10_in 0 = .ok (.iload_n 0, 1) := by decide +kernel
theorem dX10_in_1 : decode cX10_in 1 = .ok (.iload_n 1, 1) := by decide +kernel
theorem dX10_in_2 : decode cX10_in 2 = .ok (.if_icmp .lt 12, 3) := by decide +kernel
theorem dX10_in_5 : decode cX10_in 5 = .ok (.iload_n 0, 1) := by decide +kernel
theorem dX10_in_6 : decode cX10_in 6 = .ok (.iload_n 2, 1) := by decide +kernel
theorem dX10_in_7 : decode cX10_in 7 = .ok (.if_icmp .gt 7, 3) := by decide +kernel
theorem dX10_in_10 : decode cX10_in 10 = .ok (.iconst 1, 1) := by decide +kernel
theorem dX10_in_11 : decode cX10_in 11 = .ok (.goto 4, 3) := by decide +kernel
theorem dX10_in_14 : decode cX10_in 14 = .ok (.iconst 0, 1) := by decide +kernel
theorem dX10_in_15 : decode cX10_in 15 = .ok (.ireturn, 1) := by decide +kernel
theorem dX10_meets_0 : decode cX10_meets 0 = .ok (.aload_n 0, 1) := by decide +kernel
theorem dX10_meets_1 : decode cX10_meets 1 = .ok (.iload_n 1, 1) := by decide +kernel
theorem dX10_meets_2 : decode cX10_meets 2 = .ok (.putfield 96, 3) := by decide +kernel
theorem dX10_meets_5 : decode cX10_meets 5 = .ok (.aload_n 0, 1) := by decide +kernel
theorem dX10_meets_6 : decode cX10_meets 6 = .ok (.getfield 7, 3) := by decide +kernel
theorem dX10_meets_9 : decode cX10_meets 9 = .ok (.iload_n 1, 1) := by decide +kernel
theorem dX10_meets_10 : decode cX10_meets 10 = .ok (.dup2, 1) := by decide +kernel
theorem dX10_meets_11 : decode cX10_meets 11 = .ok (.iaload, 1) := by decide +kernel
theorem dX10_meets_12 : decode cX10_meets 12 = .ok (.iconst 1, 1) := by decide +kernel
theorem dX10_meets_13 : decode cX10_meets 13 = .ok (.iadd, 1) := by decide +kernel
theorem dX10_meets_14 : decode cX10_meets 14 = .ok (.iastore, 1) := by decide +kernel
theorem dX10_meets_15 : decode cX10_meets 15 = .ok (.bipush (-3), 2) := by decide +kernel
theorem dX10_meets_17 : decode cX10_meets 17 = .ok (.ireturn, 1) := by decide +kernel
theorem dX10_ask_0 : decode cX10_ask 0 = .ok (.aload_n 0, 1) := by decide +kernel
theorem dX10_ask_1 : decode cX10_ask 1 = .ok (.iload_n 1, 1) := by decide +kernel
theorem dX10_ask_2 : decode cX10_ask 2 = .ok (.putfield 100, 3) := by decide +kernel
theorem dX10_ask_5 : decode cX10_ask 5 = .ok (.iload_n 2, 1) := by decide +kernel
theorem dX10_ask_6 : decode cX10_ask 6 = .ok (.ireturn, 1) := by decide +kernel
theorem dX10_has_0 : decode cX10_has 0 = .ok (.iload_n 0, 1) := by decide +kernel
theorem dX10_has_1 : decode cX10_has 1 = .ok (.iload_n 1, 1) := by decide +kernel
theorem dX10_has_2 : decode cX10_has 2 = .ok (.ishr, 1) := by decide +kernel
theorem dX10_has_3 : decode cX10_has 3 = .ok (.iconst 1, 1) := by decide +kernel
theorem dX10_has_4 : decode cX10_has 4 = .ok (.iand, 1) := by decide +kernel
theorem dX10_has_5 : decode cX10_has 5 = .ok (.iconst 1, 1) := by decide +kernel
theorem dX10_has_6 : decode cX10_has 6 = .ok (.if_icmp .ne 7, 3) := by decide +kernel
theorem dX10_has_9 : decode cX10_has 9 = .ok (.iconst 1, 1) := by decide +kernel
theorem dX10_has_10 : decode cX10_has 10 = .ok (.goto 4, 3) := by decide +kernel
theorem dX10_has_13 : decode cX10_has 13 = .ok (.iconst 0, 1) := by decide +kernel
theorem dX10_has_14 : decode cX10_has 14 = .ok (.ireturn, 1) := by decide +kernel
theorem dX10_isNumber_0 : decode cX10_isNumber 0 = .ok (.iload_n 0, 1) := by decide +kernel
theorem dX10_isNumber_1 : decode cX10_isNumber 1 = .ok (.iconst 0, 1) := by decide +kernel
theorem dX10_isNumber_2 : decode cX10_isNumber 2 = .ok (.bipush 99, 2) := by decide +kernel
theorem dX10_isNumber_4 : decode cX10_isNumber 4 = .ok (.invokestatic 103, 3) := by decide +kernel
theorem dX10_isNumber_7 : decode cX10_isNumber 7 = .ok (.ireturn, 1) := by decide +kernel
theorem dX10_isRow_0 : decode cX10_isRow 0 = .ok (.iload_n 0, 1) := by decide +kernel
theorem dX10_isRow_1 : decode cX10_isRow 1 = .ok (.iconst 0, 1) := by decide +kernel
theorem dX10_isRow_2 : decode cX10_isRow 2 = .ok (.iconst 5, 1) := by decide +kernel
theorem dX10_isRow_3 : decode cX10_isRow 3 = .ok (.invokestatic 103, 3) := by decide +kernel
theorem dX10_isRow_6 : decode cX10_isRow 6 = .ok (.ireturn, 1) := by decide +kernel
theorem dX10_isText_0 : decode cX10_isText 0 = .ok (.iload_n 0, 1) := by decide +kernel
theorem dX10_isText_1 : decode cX10_isText 1 = .ok (.iconst 0, 1) := by decide +kernel
theorem dX10_isText_2 : decode cX10_isText 2 = .ok (.iconst 3, 1) := by decide +kernel
theorem dX10_isText_3 : decode cX10_isText 3 = .ok (.invokestatic 103, 3) := by decide +kernel
theorem dX10_isText_6 : decode cX10_isText 6 = .ok (.ireturn, 1) := by decide +kernel
theorem dX10_askedRow_0 : decode cX10_askedRow 0 = .ok (.iload_n 1, 1) := by decide +kernel
theorem dX10_askedRow_1 : decode cX10_askedRow 1 = .ok (.invokestatic 107, 3) := by decide +kernel
theorem dX10_askedRow_4 : decode cX10_askedRow 4 = .ok (.ifCond .ne 7, 3) := by decide +kernel
theorem dX10_askedRow_7 : decode cX10_askedRow 7 = .ok (.iconst (-1), 1) := by decide +kernel
theorem dX10_askedRow_8 : decode cX10_askedRow 8 = .ok (.goto 21, 3) := by decide +kernel
theorem dX10_askedRow_11 : decode cX10_askedRow 11 = .ok (.aload_n 0, 1) := by decide +kernel
theorem dX10_askedRow_12 : decode cX10_askedRow 12 = .ok (.getfield 17, 3) := by decide +kernel
theorem dX10_askedRow_15 : decode cX10_askedRow 15 = .ok (.iload_n 1, 1) := by decide +kernel
theorem dX10_askedRow_16 : decode cX10_askedRow 16 = .ok (.iaload, 1) := by decide +kernel
theorem dX10_askedRow_17 : decode cX10_askedRow 17 = .ok (.ifCond .ge 11, 3) := by decide +kernel
theorem dX10_askedRow_20 : decode cX10_askedRow 20 = .ok (.aload_n 0, 1) := by decide +kernel
theorem dX10_askedRow_21 : decode cX10_askedRow 21 = .ok (.iconst 1, 1) := by decide +kernel
theorem dX10_askedRow_22 : decode cX10_askedRow 22 = .ok (.invokevirtual 111, 3) := by decide +kernel
theorem dX10_askedRow_25 : decode cX10_askedRow 25 = .ok (.goto 4, 3) := by decide +kernel
theorem dX10_askedRow_28 : decode cX10_askedRow 28 = .ok (.iconst 0, 1) := by decide +kernel
theorem dX10_askedRow_29 : decode cX10_askedRow 29 = .ok (.ireturn, 1) := by decide +kernel
theorem dX10_askedText_0 : decode cX10_askedText 0 = .ok (.iload_n 1, 1) := by decide +kernel
theorem dX10_askedText_1 : decode cX10_askedText 1 = .ok (.invokestatic 115, 3) := by decide +kernel
theorem dX10_askedText_4 : decode cX10_askedText 4 = .ok (.ifCond .ne 7, 3) := by decide +kernel
theorem dX10_askedText_7 : decode cX10_askedText 7 = .ok (.iconst (-1), 1) := by decide +kernel
theorem dX10_askedText_8 : decode cX10_askedText 8 = .ok (.goto 21, 3) := by decide +kernel
theorem dX10_askedText_11 : decode cX10_askedText 11 = .ok (.aload_n 0, 1) := by decide +kernel
theorem dX10_askedText_12 : decode cX10_askedText 12 = .ok (.getfield 26, 3) := by decide +kernel
theorem dX10_askedText_15 : decode cX10_askedText 15 = .ok (.iload_n 1, 1) := by decide +kernel
theorem dX10_askedText_16 : decode cX10_askedText 16 = .ok (.iaload, 1) := by decide +kernel
theorem dX10_askedText_17 : decode cX10_askedText 17 = .ok (.ifCond .ge 11, 3) := by decide +kernel
theorem dX10_askedText_20 : decode cX10_askedText 20 = .ok (.aload_n 0, 1) := by decide +kernel
theorem dX10_askedText_21 : decode cX10_askedText 21 = .ok (.iconst 1, 1) := by decide +kernel
theorem dX10_askedText_22 : decode cX10_askedText 22 = .ok (.invokevirtual 111, 3) := by decide +kernel
theorem dX10_askedText_25 : decode cX10_askedText 25 = .ok (.goto 4, 3) := by decide +kernel
theorem dX10_askedText_28 : decode cX10_askedText 28 = .ok (.iconst 0, 1) := by decide +kernel
theorem dX10_askedText_29 : decode cX10_askedText 29 = .ok (.ireturn, 1) := by decide +kernel
theorem dX10_rowAt_0 : decode cX10_rowAt 0 = .ok (.aload_n 0, 1) := by decide +kernel
theorem dX10_rowAt_1 : decode cX10_rowAt 1 = .ok (.getfield 20, 3) := by decide +kernel
theorem dX10_rowAt_4 : decode cX10_rowAt 4 = .ok (.bipush 40, 2) := by decide +kernel
theorem dX10_rowAt_6 : decode cX10_rowAt 6 = .ok (.iload_n 1, 1) := by decide +kernel
theorem dX10_rowAt_7 : decode cX10_rowAt 7 = .ok (.imul, 1) := by decide +kernel
theorem dX10_rowAt_8 : decode cX10_rowAt 8 = .ok (.iload_n 2, 1) := by decide +kernel
theorem dX10_rowAt_9 : decode cX10_rowAt 9 = .ok (.iadd, 1) := by decide +kernel
theorem dX10_rowAt_10 : decode cX10_rowAt 10 = .ok (.iaload, 1) := by decide +kernel
theorem dX10_rowAt_11 : decode cX10_rowAt 11 = .ok (.ireturn, 1) := by decide +kernel
theorem dX10_row_0 : decode cX10_row 0 = .ok (.iload_n 1, 1) := by decide +kernel
theorem dX10_row_1 : decode cX10_row 1 = .ok (.invokestatic 107, 3) := by decide +kernel
theorem dX10_row_4 : decode cX10_row 4 = .ok (.ifCond .eq 9, 3) := by decide +kernel
theorem dX10_row_7 : decode cX10_row 7 = .ok (.iload_n 2, 1) := by decide +kernel
theorem dX10_row_8 : decode cX10_row 8 = .ok (.bipush 40, 2) := by decide +kernel
theorem dX10_row_10 : decode cX10_row 10 = .ok (.if_icmp .le 5, 3) := by decide +kernel
theorem dX10_row_13 : decode cX10_row 13 = .ok (.iconst (-1), 1) := by decide +kernel
theorem dX10_row_14 : decode cX10_row 14 = .ok (.ireturn, 1) := by decide +kernel
theorem dX10_row_15 : decode cX10_row 15 = .ok (.iload_n 2, 1) := by decide +kernel
theorem dX10_row_16 : decode cX10_row 16 = .ok (.ifCond .ge 9, 3) := by decide +kernel
theorem dX10_row_19 : decode cX10_row 19 = .ok (.aload_n 0, 1) := by decide +kernel
theorem dX10_row_20 : decode cX10_row 20 = .ok (.iconst 5, 1) := by decide +kernel
theorem dX10_row_21 : decode cX10_row 21 = .ok (.invokevirtual 111, 3) := by decide +kernel
theorem dX10_row_24 : decode cX10_row 24 = .ok (.ireturn, 1) := by decide +kernel
theorem dX10_row_25 : decode cX10_row 25 = .ok (.aload_n 0, 1) := by decide +kernel
theorem dX10_row_26 : decode cX10_row 26 = .ok (.getfield 17, 3) := by decide +kernel
theorem dX10_row_29 : decode cX10_row 29 = .ok (.iload_n 1, 1) := by decide +kernel
theorem dX10_row_30 : decode cX10_row 30 = .ok (.iload_n 2, 1) := by decide +kernel
theorem dX10_row_31 : decode cX10_row 31 = .ok (.iastore, 1) := by decide +kernel
theorem dX10_row_32 : decode cX10_row 32 = .ok (.iconst 0, 1) := by decide +kernel
theorem dX10_row_33 : decode cX10_row 33 = .ok (.istore_n 3, 1) := by decide +kernel
theorem dX10_row_34 : decode cX10_row 34 = .ok (.iload_n 3, 1) := by decide +kernel
theorem dX10_row_35 : decode cX10_row 35 = .ok (.bipush 40, 2) := by decide +kernel
theorem dX10_row_37 : decode cX10_row 37 = .ok (.if_icmp .ge 21, 3) := by decide +kernel
theorem dX10_row_40 : decode cX10_row 40 = .ok (.aload_n 0, 1) := by decide +kernel
theorem dX10_row_41 : decode cX10_row 41 = .ok (.getfield 20, 3) := by decide +kernel
theorem dX10_row_44 : decode cX10_row 44 = .ok (.bipush 40, 2) := by decide +kernel
theorem dX10_row_46 : decode cX10_row 46 = .ok (.iload_n 1, 1) := by decide +kernel
theorem dX10_row_47 : decode cX10_row 47 = .ok (.imul, 1) := by decide +kernel
theorem dX10_row_48 : decode cX10_row 48 = .ok (.iload_n 3, 1) := by decide +kernel
theorem dX10_row_49 : decode cX10_row 49 = .ok (.iadd, 1) := by decide +kernel
theorem dX10_row_50 : decode cX10_row 50 = .ok (.iconst 0, 1) := by decide +kernel
theorem dX10_row_51 : decode cX10_row 51 = .ok (.iastore, 1) := by decide +kernel
theorem dX10_row_52 : decode cX10_row 52 = .ok (.iinc 3 1, 3) := by decide +kernel
theorem dX10_row_55 : decode cX10_row 55 = .ok (.goto (-21), 3) := by decide +kernel
theorem dX10_row_58 : decode cX10_row 58 = .ok (.iload_n 2, 1) := by decide +kernel
theorem dX10_row_59 : decode cX10_row 59 = .ok (.ireturn, 1) := by decide +kernel
theorem dX10_at_0 : decode cX10_at 0 = .ok (.aload_n 0, 1) := by decide +kernel
theorem dX10_at_1 : decode cX10_at 1 = .ok (.iload_n 1, 1) := by decide +kernel
theorem dX10_at_2 : decode cX10_at 2 = .ok (.invokevirtual 118, 3) := by decide +kernel
theorem dX10_at_5 : decode cX10_at 5 = .ok (.istore_n 3, 1) := by decide +kernel
theorem dX10_at_6 : decode cX10_at 6 = .ok (.iload_n 3, 1) := by decide +kernel
theorem dX10_at_7 : decode cX10_at 7 = .ok (.ifCond .ge 5, 3) := by decide +kernel
theorem dX10_at_10 : decode cX10_at 10 = .ok (.iload_n 3, 1) := by decide +kernel
theorem dX10_at_11 : decode cX10_at 11 = .ok (.ireturn, 1) := by decide +kernel
theorem dX10_at_12 : decode cX10_at 12 = .ok (.iload_n 2, 1) := by decide +kernel
theorem dX10_at_13 : decode cX10_at 13 = .ok (.iconst 0, 1) := by decide +kernel
theorem dX10_at_14 : decode cX10_at 14 = .ok (.aload_n 0, 1) := by decide +kernel
theorem dX10_at_15 : decode cX10_at 15 = .ok (.getfield 17, 3) := by decide +kernel
theorem dX10_at_18 : decode cX10_at 18 = .ok (.iload_n 1, 1) := by decide +kernel
theorem dX10_at_19 : decode cX10_at 19 = .ok (.iaload, 1) := by decide +kernel
theorem dX10_at_20 : decode cX10_at 20 = .ok (.iconst 1, 1) := by decide +kernel
theorem dX10_at_21 : decode cX10_at 21 = .ok (.isub, 1) := by decide +kernel
theorem dX10_at_22 : decode cX10_at 22 = .ok (.invokestatic 103, 3) := by decide +kernel
theorem dX10_at_25 : decode cX10_at 25 = .ok (.ifCond .eq 17, 3) := by decide +kernel
theorem dX10_at_28 : decode cX10_at 28 = .ok (.aload_n 0, 1) := by decide +kernel
theorem dX10_at_29 : decode cX10_at 29 = .ok (.aload_n 0, 1) := by decide +kernel
theorem dX10_at_30 : decode cX10_at 30 = .ok (.iload_n 1, 1) := by decide +kernel
theorem dX10_at_31 : decode cX10_at 31 = .ok (.iload_n 2, 1) := by decide +kernel
theorem dX10_at_32 : decode cX10_at 32 = .ok (.invokevirtual 121, 3) := by decide +kernel
theorem dX10_at_35 : decode cX10_at 35 = .ok (.iconst 1, 1) := by decide +kernel
theorem dX10_at_36 : decode cX10_at 36 = .ok (.invokevirtual 125, 3) := by decide +kernel
theorem dX10_at_39 : decode cX10_at 39 = .ok (.goto 8, 3) := by decide +kernel
theorem dX10_at_42 : decode cX10_at 42 = .ok (.aload_n 0, 1) := by decide +kernel
theorem dX10_at_43 : decode cX10_at 43 = .ok (.iconst 2, 1) := by decide +kernel
theorem dX10_at_44 : decode cX10_at 44 = .ok (.invokevirtual 111, 3) := by decide +kernel
theorem dX10_at_47 : decode cX10_at 47 = .ok (.ireturn, 1) := by decide +kernel
theorem dX10_lay_0 : decode cX10_lay 0 = .ok (.aload_n 0, 1) := by decide +kernel
theorem dX10_lay_1 : decode cX10_lay 1 = .ok (.iload_n 1, 1) := by decide +kernel
theorem dX10_lay_2 : decode cX10_lay 2 = .ok (.iload_n 2, 1) := by decide +kernel
theorem dX10_lay_3 : decode cX10_lay 3 = .ok (.invokevirtual 128, 3) := by decide +kernel
theorem dX10_lay_6 : decode cX10_lay 6 = .ok (.istore 4, 2) := by decide +kernel
theorem dX10_lay_8 : decode cX10_lay 8 = .ok (.iload 4, 2) := by decide +kernel
theorem dX10_lay_10 : decode cX10_lay 10 = .ok (.ifCond .ge 6, 3) := by decide +kernel
theorem dX10_lay_13 : decode cX10_lay 13 = .ok (.iload 4, 2) := by decide +kernel
theorem dX10_lay_15 : decode cX10_lay 15 = .ok (.ireturn, 1) := by decide +kernel
theorem dX10_lay_16 : decode cX10_lay 16 = .ok (.aload_n 0, 1) := by decide +kernel
theorem dX10_lay_17 : decode cX10_lay 17 = .ok (.getfield 20, 3) := by decide +kernel
theorem dX10_lay_20 : decode cX10_lay 20 = .ok (.bipush 40, 2) := by decide +kernel
theorem dX10_lay_22 : decode cX10_lay 22 = .ok (.iload_n 1, 1) := by decide +kernel
theorem dX10_lay_23 : decode cX10_lay 23 = .ok (.imul, 1) := by decide +kernel
theorem dX10_lay_24 : decode cX10_lay 24 = .ok (.iload_n 2, 1) := by decide +kernel
theorem dX10_lay_25 : decode cX10_lay 25 = .ok (.iadd, 1) := by decide +kernel
theorem dX10_lay_26 : decode cX10_lay 26 = .ok (.iload_n 3, 1) := by decide +kernel
theorem dX10_lay_27 : decode cX10_lay 27 = .ok (.iastore, 1) := by decide +kernel
theorem dX10_lay_28 : decode cX10_lay 28 = .ok (.iconst 1, 1) := by decide +kernel
theorem dX10_lay_29 : decode cX10_lay 29 = .ok (.ireturn, 1) := by decide +kernel
theorem dX10_tear_0 : decode cX10_tear 0 = .ok (.aload_n 0, 1) := by decide +kernel
theorem dX10_tear_1 : decode cX10_tear 1 = .ok (.iload_n 1, 1) := by decide +kernel
theorem dX10_tear_2 : decode cX10_tear 2 = .ok (.invokevirtual 118, 3) := by decide +kernel
theorem dX10_tear_5 : decode cX10_tear 5 = .ok (.istore_n 2, 1) := by decide +kernel
theorem dX10_tear_6 : decode cX10_tear 6 = .ok (.iload_n 2, 1) := by decide +kernel
theorem dX10_tear_7 : decode cX10_tear 7 = .ok (.ifCond .ge 5, 3) := by decide +kernel
theorem dX10_tear_10 : decode cX10_tear 10 = .ok (.iload_n 2, 1) := by decide +kernel
theorem dX10_tear_11 : decode cX10_tear 11 = .ok (.ireturn, 1) := by decide +kernel
theorem dX10_tear_12 : decode cX10_tear 12 = .ok (.aload_n 0, 1) := by decide +kernel
theorem dX10_tear_13 : decode cX10_tear 13 = .ok (.getfield 17, 3) := by decide +kernel
theorem dX10_tear_16 : decode cX10_tear 16 = .ok (.iload_n 1, 1) := by decide +kernel
theorem dX10_tear_17 : decode cX10_tear 17 = .ok (.bipush (-9), 2) := by decide +kernel
theorem dX10_tear_19 : decode cX10_tear 19 = .ok (.iastore, 1) := by decide +kernel
theorem dX10_tear_20 : decode cX10_tear 20 = .ok (.iconst 1, 1) := by decide +kernel
theorem dX10_tear_21 : decode cX10_tear 21 = .ok (.ireturn, 1) := by decide +kernel
theorem dX10_copy_0 : decode cX10_copy 0 = .ok (.iload_n 1, 1) := by decide +kernel
theorem dX10_copy_1 : decode cX10_copy 1 = .ok (.invokestatic 107, 3) := by decide +kernel
theorem dX10_copy_4 : decode cX10_copy 4 = .ok (.ifCond .eq 10, 3) := by decide +kernel
theorem dX10_copy_7 : decode cX10_copy 7 = .ok (.iload_n 3, 1) := by decide +kernel
theorem dX10_copy_8 : decode cX10_copy 8 = .ok (.invokestatic 107, 3) := by decide +kernel
theorem dX10_copy_11 : decode cX10_copy 11 = .ok (.ifCond .ne 5, 3) := by decide +kernel
theorem dX10_copy_14 : decode cX10_copy 14 = .ok (.iconst (-1), 1) := by decide +kernel
theorem dX10_copy_15 : decode cX10_copy 15 = .ok (.ireturn, 1) := by decide +kernel
theorem dX10_copy_16 : decode cX10_copy 16 = .ok (.iload 5, 2) := by decide +kernel
theorem dX10_copy_18 : decode cX10_copy 18 = .ok (.ifCond .ge 9, 3) := by decide +kernel
theorem dX10_copy_21 : decode cX10_copy 21 = .ok (.aload_n 0, 1) := by decide +kernel
theorem dX10_copy_22 : decode cX10_copy 22 = .ok (.iconst 5, 1) := by decide +kernel
theorem dX10_copy_23 : decode cX10_copy 23 = .ok (.invokevirtual 111, 3) := by decide +kernel
theorem dX10_copy_26 : decode cX10_copy 26 = .ok (.ireturn, 1) := by decide +kernel
theorem dX10_copy_27 : decode cX10_copy 27 = .ok (.aload_n 0, 1) := by decide +kernel
theorem dX10_copy_28 : decode cX10_copy 28 = .ok (.getfield 17, 3) := by decide +kernel
theorem dX10_copy_31 : decode cX10_copy 31 = .ok (.iload_n 1, 1) := by decide +kernel
theorem dX10_copy_32 : decode cX10_copy 32 = .ok (.iaload, 1) := by decide +kernel
theorem dX10_copy_33 : decode cX10_copy 33 = .ok (.ifCond .lt 12, 3) := by decide +kernel
theorem dX10_copy_36 : decode cX10_copy 36 = .ok (.aload_n 0, 1) := by decide +kernel
theorem dX10_copy_37 : decode cX10_copy 37 = .ok (.getfield 17, 3) := by decide +kernel
theorem dX10_copy_40 : decode cX10_copy 40 = .ok (.iload_n 3, 1) := by decide +kernel
theorem dX10_copy_41 : decode cX10_copy 41 = .ok (.iaload, 1) := by decide +kernel
theorem dX10_copy_42 : decode cX10_copy 42 = .ok (.ifCond .ge 9, 3) := by decide +kernel
theorem dX10_copy_45 : decode cX10_copy 45 = .ok (.aload_n 0, 1) := by decide +kernel
theorem dX10_copy_46 : decode cX10_copy 46 = .ok (.iconst 1, 1) := by decide +kernel
theorem dX10_copy_47 : decode cX10_copy 47 = .ok (.invokevirtual 111, 3) := by decide +kernel
theorem dX10_copy_50 : decode cX10_copy 50 = .ok (.ireturn, 1) := by decide +kernel
theorem dX10_copy_51 : decode cX10_copy 51 = .ok (.iload_n 2, 1) := by decide +kernel
theorem dX10_copy_52 : decode cX10_copy 52 = .ok (.ifCond .lt 43, 3) := by decide +kernel
theorem dX10_copy_55 : decode cX10_copy 55 = .ok (.iload 4, 2) := by decide +kernel
theorem dX10_copy_57 : decode cX10_copy 57 = .ok (.ifCond .lt 38, 3) := by decide +kernel
theorem dX10_copy_60 : decode cX10_copy 60 = .ok (.iload_n 2, 1) := by decide +kernel
theorem dX10_copy_61 : decode cX10_copy 61 = .ok (.i2l, 1) := by decide +kernel
theorem dX10_copy_62 : decode cX10_copy 62 = .ok (.iload 5, 2) := by decide +kernel
theorem dX10_copy_64 : decode cX10_copy 64 = .ok (.i2l, 1) := by decide +kernel
theorem dX10_copy_65 : decode cX10_copy 65 = .ok (.ladd, 1) := by decide +kernel
theorem dX10_copy_66 : decode cX10_copy 66 = .ok (.aload_n 0, 1) := by decide +kernel
theorem dX10_copy_67 : decode cX10_copy 67 = .ok (.getfield 17, 3) := by decide +kernel
theorem dX10_copy_70 : decode cX10_copy 70 = .ok (.iload_n 1, 1) := by decide +kernel
theorem dX10_copy_71 : decode cX10_copy 71 = .ok (.iaload, 1) := by decide +kernel
theorem dX10_copy_72 : decode cX10_copy 72 = .ok (.i2l, 1) := by decide +kernel
theorem dX10_copy_73 : decode cX10_copy 73 = .ok (.lcmp, 1) := by decide +kernel
theorem dX10_copy_74 : decode cX10_copy 74 = .ok (.ifCond .gt 21, 3) := by decide +kernel
theorem dX10_copy_77 : decode cX10_copy 77 = .ok (.iload 4, 2) := by decide +kernel
theorem dX10_copy_79 : decode cX10_copy 79 = .ok (.i2l, 1) := by decide +kernel
theorem dX10_copy_80 : decode cX10_copy 80 = .ok (.iload 5, 2) := by decide +kernel
theorem dX10_copy_82 : decode cX10_copy 82 = .ok (.i2l, 1) := by decide +kernel
theorem dX10_copy_83 : decode cX10_copy 83 = .ok (.ladd, 1) := by decide +kernel
theorem dX10_copy_84 : decode cX10_copy 84 = .ok (.aload_n 0, 1) := by decide +kernel
theorem dX10_copy_85 : decode cX10_copy 85 = .ok (.getfield 17, 3) := by decide +kernel
theorem dX10_copy_88 : decode cX10_copy 88 = .ok (.iload_n 3, 1) := by decide +kernel
theorem dX10_copy_89 : decode cX10_copy 89 = .ok (.iaload, 1) := by decide +kernel
theorem dX10_copy_90 : decode cX10_copy 90 = .ok (.i2l, 1) := by decide +kernel
theorem dX10_copy_91 : decode cX10_copy 91 = .ok (.lcmp, 1) := by decide +kernel
theorem dX10_copy_92 : decode cX10_copy 92 = .ok (.ifCond .le 9, 3) := by decide +kernel
theorem dX10_copy_95 : decode cX10_copy 95 = .ok (.aload_n 0, 1) := by decide +kernel
theorem dX10_copy_96 : decode cX10_copy 96 = .ok (.iconst 2, 1) := by decide +kernel
theorem dX10_copy_97 : decode cX10_copy 97 = .ok (.invokevirtual 111, 3) := by decide +kernel
theorem dX10_copy_100 : decode cX10_copy 100 = .ok (.ireturn, 1) := by decide +kernel
theorem dX10_copy_101 : decode cX10_copy 101 = .ok (.iconst 0, 1) := by decide +kernel
theorem dX10_copy_102 : decode cX10_copy 102 = .ok (.istore 6, 2) := by decide +kernel
theorem dX10_copy_104 : decode cX10_copy 104 = .ok (.iload 6, 2) := by decide +kernel
theorem dX10_copy_106 : decode cX10_copy 106 = .ok (.iload 5, 2) := by decide +kernel
theorem dX10_copy_108 : decode cX10_copy 108 = .ok (.if_icmp .ge 25, 3) := by decide +kernel
theorem dX10_copy_111 : decode cX10_copy 111 = .ok (.aload_n 0, 1) := by decide +kernel
theorem dX10_copy_112 : decode cX10_copy 112 = .ok (.getfield 23, 3) := by decide +kernel
theorem dX10_copy_115 : decode cX10_copy 115 = .ok (.iload 6, 2) := by decide +kernel
theorem dX10_copy_117 : decode cX10_copy 117 = .ok (.aload_n 0, 1) := by decide +kernel
theorem dX10_copy_118 : decode cX10_copy 118 = .ok (.iload_n 1, 1) := by decide +kernel
theorem dX10_copy_119 : decode cX10_copy 119 = .ok (.iload_n 2, 1) := by decide +kernel
theorem dX10_copy_120 : decode cX10_copy 120 = .ok (.iload 6, 2) := by decide +kernel
theorem dX10_copy_122 : decode cX10_copy 122 = .ok (.iadd, 1) := by decide +kernel
theorem dX10_copy_123 : decode cX10_copy 123 = .ok (.invokevirtual 121, 3) := by decide +kernel
theorem dX10_copy_126 : decode cX10_copy 126 = .ok (.iastore, 1) := by decide +kernel
theorem dX10_copy_127 : decode cX10_copy 127 = .ok (.iinc 6 1, 3) := by decide +kernel
theorem dX10_copy_130 : decode cX10_copy 130 = .ok (.goto (-26), 3) := by decide +kernel
theorem dX10_copy_133 : decode cX10_copy 133 = .ok (.iconst 0, 1) := by decide +kernel
theorem dX10_copy_134 : decode cX10_copy 134 = .ok (.istore 6, 2) := by decide +kernel
theorem dX10_copy_136 : decode cX10_copy 136 = .ok (.iload 6, 2) := by decide +kernel
theorem dX10_copy_138 : decode cX10_copy 138 = .ok (.iload 5, 2) := by decide +kernel
theorem dX10_copy_140 : decode cX10_copy 140 = .ok (.if_icmp .ge 31, 3) := by decide +kernel
theorem dX10_copy_143 : decode cX10_copy 143 = .ok (.aload_n 0, 1) := by decide +kernel
theorem dX10_copy_144 : decode cX10_copy 144 = .ok (.getfield 20, 3) := by decide +kernel
theorem dX10_copy_147 : decode cX10_copy 147 = .ok (.bipush 40, 2) := by decide +kernel
theorem dX10_copy_149 : decode cX10_copy 149 = .ok (.iload_n 3, 1) := by decide +kernel
theorem dX10_copy_150 : decode cX10_copy 150 = .ok (.imul, 1) := by decide +kernel
theorem dX10_copy_151 : decode cX10_copy 151 = .ok (.iload 4, 2) := by decide +kernel
theorem dX10_copy_153 : decode cX10_copy 153 = .ok (.iadd, 1) := by decide +kernel
theorem dX10_copy_154 : decode cX10_copy 154 = .ok (.iload 6, 2) := by decide +kernel
theorem dX10_copy_156 : decode cX10_copy 156 = .ok (.iadd, 1) := by decide +kernel
theorem dX10_copy_157 : decode cX10_copy 157 = .ok (.aload_n 0, 1) := by decide +kernel
theorem dX10_copy_158 : decode cX10_copy 158 = .ok (.getfield 23, 3) := by decide +kernel
theorem dX10_copy_161 : decode cX10_copy 161 = .ok (.iload 6, 2) := by decide +kernel
theorem dX10_copy_163 : decode cX10_copy 163 = .ok (.iaload, 1) := by decide +kernel
theorem dX10_copy_164 : decode cX10_copy 164 = .ok (.iastore, 1) := by decide +kernel
theorem dX10_copy_165 : decode cX10_copy 165 = .ok (.iinc 6 1, 3) := by decide +kernel
theorem dX10_copy_168 : decode cX10_copy 168 = .ok (.goto (-32), 3) := by decide +kernel
theorem dX10_copy_171 : decode cX10_copy 171 = .ok (.iconst 1, 1) := by decide +kernel
theorem dX10_copy_172 : decode cX10_copy 172 = .ok (.ireturn, 1) := by decide +kernel
theorem dX10_mean_0 : decode cX10_mean 0 = .ok (.aload_n 0, 1) := by decide +kernel
theorem dX10_mean_1 : decode cX10_mean 1 = .ok (.iload_n 1, 1) := by decide +kernel
theorem dX10_mean_2 : decode cX10_mean 2 = .ok (.invokevirtual 118, 3) := by decide +kernel
theorem dX10_mean_5 : decode cX10_mean 5 = .ok (.istore_n 2, 1) := by decide +kernel
theorem dX10_mean_6 : decode cX10_mean 6 = .ok (.iload_n 2, 1) := by decide +kernel
theorem dX10_mean_7 : decode cX10_mean 7 = .ok (.ifCond .ge 5, 3) := by decide +kernel
theorem dX10_mean_10 : decode cX10_mean 10 = .ok (.iload_n 2, 1) := by decide +kernel
theorem dX10_mean_11 : decode cX10_mean 11 = .ok (.ireturn, 1) := by decide +kernel
theorem dX10_mean_12 : decode cX10_mean 12 = .ok (.lconst 0, 1) := by decide +kernel
theorem dX10_mean_13 : decode cX10_mean 13 = .ok (.lstore_n 3, 1) := by decide +kernel
theorem dX10_mean_14 : decode cX10_mean 14 = .ok (.iconst 0, 1) := by decide +kernel
theorem dX10_mean_15 : decode cX10_mean 15 = .ok (.istore 5, 2) := by decide +kernel
theorem dX10_mean_17 : decode cX10_mean 17 = .ok (.iload 5, 2) := by decide +kernel
theorem dX10_mean_19 : decode cX10_mean 19 = .ok (.aload_n 0, 1) := by decide +kernel
theorem dX10_mean_20 : decode cX10_mean 20 = .ok (.getfield 17, 3) := by decide +kernel
theorem dX10_mean_23 : decode cX10_mean 23 = .ok (.iload_n 1, 1) := by decide +kernel
theorem dX10_mean_24 : decode cX10_mean 24 = .ok (.iaload, 1) := by decide +kernel
theorem dX10_mean_25 : decode cX10_mean 25 = .ok (.if_icmp .ge 20, 3) := by decide +kernel
theorem dX10_mean_28 : decode cX10_mean 28 = .ok (.lload_n 3, 1) := by decide +kernel
theorem dX10_mean_29 : decode cX10_mean 29 = .ok (.aload_n 0, 1) := by decide +kernel
theorem dX10_mean_30 : decode cX10_mean 30 = .ok (.iload_n 1, 1) := by decide +kernel
theorem dX10_mean_31 : decode cX10_mean 31 = .ok (.iload 5, 2) := by decide +kernel
theorem dX10_mean_33 : decode cX10_mean 33 = .ok (.invokevirtual 121, 3) := by decide +kernel
theorem dX10_mean_36 : decode cX10_mean 36 = .ok (.i2l, 1) := by decide +kernel
theorem dX10_mean_37 : decode cX10_mean 37 = .ok (.ladd, 1) := by decide +kernel
theorem dX10_mean_38 : decode cX10_mean 38 = .ok (.lstore_n 3, 1) := by decide +kernel
theorem dX10_mean_39 : decode cX10_mean 39 = .ok (.iinc 5 1, 3) := by decide +kernel
theorem dX10_mean_42 : decode cX10_mean 42 = .ok (.goto (-25), 3) := by decide +kernel
theorem dX10_mean_45 : decode cX10_mean 45 = .ok (.aload_n 0, 1) := by decide +kernel
theorem dX10_mean_46 : decode cX10_mean 46 = .ok (.getfield 17, 3) := by decide +kernel
theorem dX10_mean_49 : decode cX10_mean 49 = .ok (.iload_n 1, 1) := by decide +kernel
theorem dX10_mean_50 : decode cX10_mean 50 = .ok (.iaload, 1) := by decide +kernel
theorem dX10_mean_51 : decode cX10_mean 51 = .ok (.ifCond .ne 11, 3) := by decide +kernel
theorem dX10_mean_54 : decode cX10_mean 54 = .ok (.aload_n 0, 1) := by decide +kernel
theorem dX10_mean_55 : decode cX10_mean 55 = .ok (.iconst 4, 1) := by decide +kernel
theorem dX10_mean_56 : decode cX10_mean 56 = .ok (.invokevirtual 111, 3) := by decide +kernel
theorem dX10_mean_59 : decode cX10_mean 59 = .ok (.goto 18, 3) := by decide +kernel
theorem dX10_mean_62 : decode cX10_mean 62 = .ok (.aload_n 0, 1) := by decide +kernel
theorem dX10_mean_63 : decode cX10_mean 63 = .ok (.lload_n 3, 1) := by decide +kernel
theorem dX10_mean_64 : decode cX10_mean 64 = .ok (.aload_n 0, 1) := by decide +kernel
theorem dX10_mean_65 : decode cX10_mean 65 = .ok (.getfield 17, 3) := by decide +kernel
theorem dX10_mean_68 : decode cX10_mean 68 = .ok (.iload_n 1, 1) := by decide +kernel
theorem dX10_mean_69 : decode cX10_mean 69 = .ok (.iaload, 1) := by decide +kernel
theorem dX10_mean_70 : decode cX10_mean 70 = .ok (.i2l, 1) := by decide +kernel
theorem dX10_mean_71 : decode cX10_mean 71 = .ok (.ldiv, 1) := by decide +kernel
theorem dX10_mean_72 : decode cX10_mean 72 = .ok (.l2i, 1) := by decide +kernel
theorem dX10_mean_73 : decode cX10_mean 73 = .ok (.iconst 1, 1) := by decide +kernel
theorem dX10_mean_74 : decode cX10_mean 74 = .ok (.invokevirtual 125, 3) := by decide +kernel
theorem dX10_mean_77 : decode cX10_mean 77 = .ok (.ireturn, 1) := by decide +kernel
theorem dX10_text_0 : decode cX10_text 0 = .ok (.iload_n 1, 1) := by decide +kernel
theorem dX10_text_1 : decode cX10_text 1 = .ok (.invokestatic 115, 3) := by decide +kernel
theorem dX10_text_4 : decode cX10_text 4 = .ok (.ifCond .eq 9, 3) := by decide +kernel
theorem dX10_text_7 : decode cX10_text 7 = .ok (.iload_n 2, 1) := by decide +kernel
theorem dX10_text_8 : decode cX10_text 8 = .ok (.bipush 60, 2) := by decide +kernel
theorem dX10_text_10 : decode cX10_text 10 = .ok (.if_icmp .le 5, 3) := by decide +kernel
theorem dX10_text_13 : decode cX10_text 13 = .ok (.iconst (-1), 1) := by decide +kernel
theorem dX10_text_14 : decode cX10_text 14 = .ok (.ireturn, 1) := by decide +kernel
theorem dX10_text_15 : decode cX10_text 15 = .ok (.iload_n 2, 1) := by decide +kernel
theorem dX10_text_16 : decode cX10_text 16 = .ok (.ifCond .ge 9, 3) := by decide +kernel
theorem dX10_text_19 : decode cX10_text 19 = .ok (.aload_n 0, 1) := by decide +kernel
theorem dX10_text_20 : decode cX10_text 20 = .ok (.iconst 5, 1) := by decide +kernel
theorem dX10_text_21 : decode cX10_text 21 = .ok (.invokevirtual 111, 3) := by decide +kernel
theorem dX10_text_24 : decode cX10_text 24 = .ok (.ireturn, 1) := by decide +kernel
theorem dX10_text_25 : decode cX10_text 25 = .ok (.aload_n 0, 1) := by decide +kernel
theorem dX10_text_26 : decode cX10_text 26 = .ok (.getfield 26, 3) := by decide +kernel
theorem dX10_text_29 : decode cX10_text 29 = .ok (.iload_n 1, 1) := by decide +kernel
theorem dX10_text_30 : decode cX10_text 30 = .ok (.iload_n 2, 1) := by decide +kernel
theorem dX10_text_31 : decode cX10_text 31 = .ok (.iastore, 1) := by decide +kernel
theorem dX10_text_32 : decode cX10_text 32 = .ok (.iconst 0, 1) := by decide +kernel
theorem dX10_text_33 : decode cX10_text 33 = .ok (.istore_n 3, 1) := by decide +kernel
theorem dX10_text_34 : decode cX10_text 34 = .ok (.iload_n 3, 1) := by decide +kernel
theorem dX10_text_35 : decode cX10_text 35 = .ok (.bipush 60, 2) := by decide +kernel
theorem dX10_text_37 : decode cX10_text 37 = .ok (.if_icmp .ge 22, 3) := by decide +kernel
theorem dX10_text_40 : decode cX10_text 40 = .ok (.aload_n 0, 1) := by decide +kernel
theorem dX10_text_41 : decode cX10_text 41 = .ok (.getfield 29, 3) := by decide +kernel
theorem dX10_text_44 : decode cX10_text 44 = .ok (.bipush 60, 2) := by decide +kernel
theorem dX10_text_46 : decode cX10_text 46 = .ok (.iload_n 1, 1) := by decide +kernel
theorem dX10_text_47 : decode cX10_text 47 = .ok (.imul, 1) := by decide +kernel
theorem dX10_text_48 : decode cX10_text 48 = .ok (.iload_n 3, 1) := by decide +kernel
theorem dX10_text_49 : decode cX10_text 49 = .ok (.iadd, 1) := by decide +kernel
theorem dX10_text_50 : decode cX10_text 50 = .ok (.bipush 32, 2) := by decide +kernel
theorem dX10_text_52 : decode cX10_text 52 = .ok (.iastore, 1) := by decide +kernel
theorem dX10_text_53 : decode cX10_text 53 = .ok (.iinc 3 1, 3) := by decide +kernel
theorem dX10_text_56 : decode cX10_text 56 = .ok (.goto (-22), 3) := by decide +kernel
theorem dX10_text_59 : decode cX10_text 59 = .ok (.iload_n 2, 1) := by decide +kernel
theorem dX10_text_60 : decode cX10_text 60 = .ok (.ireturn, 1) := by decide +kernel
theorem dX10_put_0 : decode cX10_put 0 = .ok (.aload_n 0, 1) := by decide +kernel
theorem dX10_put_1 : decode cX10_put 1 = .ok (.iload_n 1, 1) := by decide +kernel
theorem dX10_put_2 : decode cX10_put 2 = .ok (.invokevirtual 131, 3) := by decide +kernel
theorem dX10_put_5 : decode cX10_put 5 = .ok (.istore 4, 2) := by decide +kernel
theorem dX10_put_7 : decode cX10_put 7 = .ok (.iload 4, 2) := by decide +kernel
theorem dX10_put_9 : decode cX10_put 9 = .ok (.ifCond .ge 6, 3) := by decide +kernel
theorem dX10_put_12 : decode cX10_put 12 = .ok (.iload 4, 2) := by decide +kernel
theorem dX10_put_14 : decode cX10_put 14 = .ok (.ireturn, 1) := by decide +kernel
theorem dX10_put_15 : decode cX10_put 15 = .ok (.iload_n 2, 1) := by decide +kernel
theorem dX10_put_16 : decode cX10_put 16 = .ok (.iconst 0, 1) := by decide +kernel
theorem dX10_put_17 : decode cX10_put 17 = .ok (.aload_n 0, 1) := by decide +kernel
theorem dX10_put_18 : decode cX10_put 18 = .ok (.getfield 26, 3) := by decide +kernel
theorem dX10_put_21 : decode cX10_put 21 = .ok (.iload_n 1, 1) := by decide +kernel
theorem dX10_put_22 : decode cX10_put 22 = .ok (.iaload, 1) := by decide +kernel
theorem dX10_put_23 : decode cX10_put 23 = .ok (.iconst 1, 1) := by decide +kernel
theorem dX10_put_24 : decode cX10_put 24 = .ok (.isub, 1) := by decide +kernel
theorem dX10_put_25 : decode cX10_put 25 = .ok (.invokestatic 103, 3) := by decide +kernel
theorem dX10_put_28 : decode cX10_put 28 = .ok (.ifCond .ne 9, 3) := by decide +kernel
theorem dX10_put_31 : decode cX10_put 31 = .ok (.aload_n 0, 1) := by decide +kernel
theorem dX10_put_32 : decode cX10_put 32 = .ok (.iconst 2, 1) := by decide +kernel
theorem dX10_put_33 : decode cX10_put 33 = .ok (.invokevirtual 111, 3) := by decide +kernel
theorem dX10_put_36 : decode cX10_put 36 = .ok (.ireturn, 1) := by decide +kernel
theorem dX10_put_37 : decode cX10_put 37 = .ok (.aload_n 0, 1) := by decide +kernel
theorem dX10_put_38 : decode cX10_put 38 = .ok (.getfield 29, 3) := by decide +kernel
theorem dX10_put_41 : decode cX10_put 41 = .ok (.bipush 60, 2) := by decide +kernel
theorem dX10_put_43 : decode cX10_put 43 = .ok (.iload_n 1, 1) := by decide +kernel
theorem dX10_put_44 : decode cX10_put 44 = .ok (.imul, 1) := by decide +kernel
theorem dX10_put_45 : decode cX10_put 45 = .ok (.iload_n 2, 1) := by decide +kernel
theorem dX10_put_46 : decode cX10_put 46 = .ok (.iadd, 1) := by decide +kernel
theorem dX10_put_47 : decode cX10_put 47 = .ok (.iaload, 1) := by decide +kernel
theorem dX10_put_48 : decode cX10_put 48 = .ok (.istore 5, 2) := by decide +kernel
theorem dX10_put_50 : decode cX10_put 50 = .ok (.aload_n 0, 1) := by decide +kernel
theorem dX10_put_51 : decode cX10_put 51 = .ok (.getfield 29, 3) := by decide +kernel
theorem dX10_put_54 : decode cX10_put 54 = .ok (.bipush 60, 2) := by decide +kernel
theorem dX10_put_56 : decode cX10_put 56 = .ok (.iload_n 1, 1) := by decide +kernel
theorem dX10_put_57 : decode cX10_put 57 = .ok (.imul, 1) := by decide +kernel
theorem dX10_put_58 : decode cX10_put 58 = .ok (.iload_n 2, 1) := by decide +kernel
theorem dX10_put_59 : decode cX10_put 59 = .ok (.iadd, 1) := by decide +kernel
theorem dX10_put_60 : decode cX10_put 60 = .ok (.iload_n 3, 1) := by decide +kernel
theorem dX10_put_61 : decode cX10_put 61 = .ok (.i2b, 1) := by decide +kernel
theorem dX10_put_62 : decode cX10_put 62 = .ok (.iastore, 1) := by decide +kernel
theorem dX10_put_63 : decode cX10_put 63 = .ok (.iload 5, 2) := by decide +kernel
theorem dX10_put_65 : decode cX10_put 65 = .ok (.sipush 1000, 3) := by decide +kernel
theorem dX10_put_68 : decode cX10_put 68 = .ok (.iadd, 1) := by decide +kernel
theorem dX10_put_69 : decode cX10_put 69 = .ok (.ireturn, 1) := by decide +kernel
theorem dX10_here_0 : decode cX10_here 0 = .ok (.aload_n 0, 1) := by decide +kernel
theorem dX10_here_1 : decode cX10_here 1 = .ok (.getfield 134, 3) := by decide +kernel
theorem dX10_here_4 : decode cX10_here 4 = .ok (.aload_n 0, 1) := by decide +kernel
theorem dX10_here_5 : decode cX10_here 5 = .ok (.getfield 26, 3) := by decide +kernel
theorem dX10_here_8 : decode cX10_here 8 = .ok (.iload_n 1, 1) := by decide +kernel
theorem dX10_here_9 : decode cX10_here 9 = .ok (.iaload, 1) := by decide +kernel
theorem dX10_here_10 : decode cX10_here 10 = .ok (.if_icmp .ge 20, 3) := by decide +kernel
theorem dX10_here_13 : decode cX10_here 13 = .ok (.aload_n 0, 1) := by decide +kernel
theorem dX10_here_14 : decode cX10_here 14 = .ok (.getfield 29, 3) := by decide +kernel
theorem dX10_here_17 : decode cX10_here 17 = .ok (.bipush 60, 2) := by decide +kernel
theorem dX10_here_19 : decode cX10_here 19 = .ok (.iload_n 1, 1) := by decide +kernel
theorem dX10_here_20 : decode cX10_here 20 = .ok (.imul, 1) := by decide +kernel
theorem dX10_here_21 : decode cX10_here 21 = .ok (.aload_n 0, 1) := by decide +kernel
theorem dX10_here_22 : decode cX10_here 22 = .ok (.getfield 134, 3) := by decide +kernel
theorem dX10_here_25 : decode cX10_here 25 = .ok (.iadd, 1) := by decide +kernel
theorem dX10_here_26 : decode cX10_here 26 = .ok (.iaload, 1) := by decide +kernel
theorem dX10_here_27 : decode cX10_here 27 = .ok (.goto 5, 3) := by decide +kernel
theorem dX10_here_30 : decode cX10_here 30 = .ok (.bipush (-9), 2) := by decide +kernel
theorem dX10_here_32 : decode cX10_here 32 = .ok (.ireturn, 1) := by decide +kernel
theorem dX10_readsByte_0 : decode cX10_readsByte 0 = .ok (.aload_n 0, 1) := by decide +kernel
theorem dX10_readsByte_1 : decode cX10_readsByte 1 = .ok (.iload_n 1, 1) := by decide +kernel
theorem dX10_readsByte_2 : decode cX10_readsByte 2 = .ok (.invokevirtual 137, 3) := by decide +kernel
theorem dX10_readsByte_5 : decode cX10_readsByte 5 = .ok (.iload_n 2, 1) := by decide +kernel
theorem dX10_readsByte_6 : decode cX10_readsByte 6 = .ok (.if_icmp .ne 7, 3) := by decide +kernel
theorem dX10_readsByte_9 : decode cX10_readsByte 9 = .ok (.iconst 1, 1) := by decide +kernel
theorem dX10_readsByte_10 : decode cX10_readsByte 10 = .ok (.goto 4, 3) := by decide +kernel
theorem dX10_readsByte_13 : decode cX10_readsByte 13 = .ok (.iconst 0, 1) := by decide +kernel
theorem dX10_readsByte_14 : decode cX10_readsByte 14 = .ok (.istore_n 3, 1) := by decide +kernel
theorem dX10_readsByte_15 : decode cX10_readsByte 15 = .ok (.aload_n 0, 1) := by decide +kernel
theorem dX10_readsByte_16 : decode cX10_readsByte 16 = .ok (.dup, 1) := by decide +kernel
theorem dX10_readsByte_17 : decode cX10_readsByte 17 = .ok (.getfield 134, 3) := by decide +kernel
theorem dX10_readsByte_20 : decode cX10_readsByte 20 = .ok (.iload_n 3, 1) := by decide +kernel
theorem dX10_readsByte_21 : decode cX10_readsByte 21 = .ok (.ifCond .eq 7, 3) := by decide +kernel
theorem dX10_readsByte_24 : decode cX10_readsByte 24 = .ok (.iconst 1, 1) := by decide +kernel
theorem dX10_readsByte_25 : decode cX10_readsByte 25 = .ok (.goto 4, 3) := by decide +kernel
theorem dX10_readsByte_28 : decode cX10_readsByte 28 = .ok (.iconst 0, 1) := by decide +kernel
theorem dX10_readsByte_29 : decode cX10_readsByte 29 = .ok (.iadd, 1) := by decide +kernel
theorem dX10_readsByte_30 : decode cX10_readsByte 30 = .ok (.putfield 134, 3) := by decide +kernel
theorem dX10_readsByte_33 : decode cX10_readsByte 33 = .ok (.iload_n 3, 1) := by decide +kernel
theorem dX10_readsByte_34 : decode cX10_readsByte 34 = .ok (.ireturn, 1) := by decide +kernel
theorem dX10_readsNumber_0 : decode cX10_readsNumber 0 = .ok (.aload_n 0, 1) := by decide +kernel
theorem dX10_readsNumber_1 : decode cX10_readsNumber 1 = .ok (.getfield 134, 3) := by decide +kernel
theorem dX10_readsNumber_4 : decode cX10_readsNumber 4 = .ok (.istore_n 2, 1) := by decide +kernel
theorem dX10_readsNumber_5 : decode cX10_readsNumber 5 = .ok (.aload_n 0, 1) := by decide +kernel
theorem dX10_readsNumber_6 : decode cX10_readsNumber 6 = .ok (.iconst 0, 1) := by decide +kernel
theorem dX10_readsNumber_7 : decode cX10_readsNumber 7 = .ok (.putfield 140, 3) := by decide +kernel
theorem dX10_readsNumber_10 : decode cX10_readsNumber 10 = .ok (.aload_n 0, 1) := by decide +kernel
theorem dX10_readsNumber_11 : decode cX10_readsNumber 11 = .ok (.getfield 134, 3) := by decide +kernel
theorem dX10_readsNumber_14 : decode cX10_readsNumber 14 = .ok (.iload_n 2, 1) := by decide +kernel
theorem dX10_readsNumber_15 : decode cX10_readsNumber 15 = .ok (.isub, 1) := by decide +kernel
theorem dX10_readsNumber_16 : decode cX10_readsNumber 16 = .ok (.iconst 2, 1) := by decide +kernel
theorem dX10_readsNumber_17 : decode cX10_readsNumber 17 = .ok (.if_icmp .ge 51, 3) := by decide +kernel
theorem dX10_readsNumber_20 : decode cX10_readsNumber 20 = .ok (.aload_n 0, 1) := by decide +kernel
theorem dX10_readsNumber_21 : decode cX10_readsNumber 21 = .ok (.iload_n 1, 1) := by decide +kernel
theorem dX10_readsNumber_22 : decode cX10_readsNumber 22 = .ok (.invokevirtual 137, 3) := by decide +kernel
theorem dX10_readsNumber_25 : decode cX10_readsNumber 25 = .ok (.bipush 48, 2) := by decide +kernel
theorem dX10_readsNumber_27 : decode cX10_readsNumber 27 = .ok (.bipush 57, 2) := by decide +kernel
theorem dX10_readsNumber_29 : decode cX10_readsNumber 29 = .ok (.invokestatic 103, 3) := by decide +kernel
theorem dX10_readsNumber_32 : decode cX10_readsNumber 32 = .ok (.ifCond .eq 36, 3) := by decide +kernel
theorem dX10_readsNumber_35 : decode cX10_readsNumber 35 = .ok (.aload_n 0, 1) := by decide +kernel
theorem dX10_readsNumber_36 : decode cX10_readsNumber 36 = .ok (.bipush 10, 2) := by decide +kernel
theorem dX10_readsNumber_38 : decode cX10_readsNumber 38 = .ok (.aload_n 0, 1) := by decide +kernel
theorem dX10_readsNumber_39 : decode cX10_readsNumber 39 = .ok (.getfield 140, 3) := by decide +kernel
theorem dX10_readsNumber_42 : decode cX10_readsNumber 42 = .ok (.imul, 1) := by decide +kernel
theorem dX10_readsNumber_43 : decode cX10_readsNumber 43 = .ok (.aload_n 0, 1) := by decide +kernel
theorem dX10_readsNumber_44 : decode cX10_readsNumber 44 = .ok (.iload_n 1, 1) := by decide +kernel
theorem dX10_readsNumber_45 : decode cX10_readsNumber 45 = .ok (.invokevirtual 137, 3) := by decide +kernel
theorem dX10_readsNumber_48 : decode cX10_readsNumber 48 = .ok (.iadd, 1) := by decide +kernel
theorem dX10_readsNumber_49 : decode cX10_readsNumber 49 = .ok (.bipush 48, 2) := by decide +kernel
theorem dX10_readsNumber_51 : decode cX10_readsNumber 51 = .ok (.isub, 1) := by decide +kernel
theorem dX10_readsNumber_52 : decode cX10_readsNumber 52 = .ok (.putfield 140, 3) := by decide +kernel
theorem dX10_readsNumber_55 : decode cX10_readsNumber 55 = .ok (.aload_n 0, 1) := by decide +kernel
theorem dX10_readsNumber_56 : decode cX10_readsNumber 56 = .ok (.dup, 1) := by decide +kernel
theorem dX10_readsNumber_57 : decode cX10_readsNumber 57 = .ok (.getfield 134, 3) := by decide +kernel
theorem dX10_readsNumber_60 : decode cX10_readsNumber 60 = .ok (.iconst 1, 1) := by decide +kernel
theorem dX10_readsNumber_61 : decode cX10_readsNumber 61 = .ok (.iadd, 1) := by decide +kernel
theorem dX10_readsNumber_62 : decode cX10_readsNumber 62 = .ok (.putfield 134, 3) := by decide +kernel
theorem dX10_readsNumber_65 : decode cX10_readsNumber 65 = .ok (.goto (-55), 3) := by decide +kernel
theorem dX10_readsNumber_68 : decode cX10_readsNumber 68 = .ok (.aload_n 0, 1) := by decide +kernel
theorem dX10_readsNumber_69 : decode cX10_readsNumber 69 = .ok (.getfield 134, 3) := by decide +kernel
theorem dX10_readsNumber_72 : decode cX10_readsNumber 72 = .ok (.iload_n 2, 1) := by decide +kernel
theorem dX10_readsNumber_73 : decode cX10_readsNumber 73 = .ok (.if_icmp .le 7, 3) := by decide +kernel
theorem dX10_readsNumber_76 : decode cX10_readsNumber 76 = .ok (.iconst 1, 1) := by decide +kernel
theorem dX10_readsNumber_77 : decode cX10_readsNumber 77 = .ok (.goto 4, 3) := by decide +kernel
theorem dX10_readsNumber_80 : decode cX10_readsNumber 80 = .ok (.iconst 0, 1) := by decide +kernel
theorem dX10_readsNumber_81 : decode cX10_readsNumber 81 = .ok (.ireturn, 1) := by decide +kernel
theorem dX10_readsSpan_0 : decode cX10_readsSpan 0 = .ok (.aload_n 0, 1) := by decide +kernel
theorem dX10_readsSpan_1 : decode cX10_readsSpan 1 = .ok (.iload_n 1, 1) := by decide +kernel
theorem dX10_readsSpan_2 : decode cX10_readsSpan 2 = .ok (.invokevirtual 143, 3) := by decide +kernel
theorem dX10_readsSpan_5 : decode cX10_readsSpan 5 = .ok (.ifCond .ne 5, 3) := by decide +kernel
theorem dX10_readsSpan_8 : decode cX10_readsSpan 8 = .ok (.iconst 0, 1) := by decide +kernel
theorem dX10_readsSpan_9 : decode cX10_readsSpan 9 = .ok (.ireturn, 1) := by decide +kernel
theorem dX10_readsSpan_10 : decode cX10_readsSpan 10 = .ok (.aload_n 0, 1) := by decide +kernel
theorem dX10_readsSpan_11 : decode cX10_readsSpan 11 = .ok (.getfield 35, 3) := by decide +kernel
theorem dX10_readsSpan_14 : decode cX10_readsSpan 14 = .ok (.iload_n 2, 1) := by decide +kernel
theorem dX10_readsSpan_15 : decode cX10_readsSpan 15 = .ok (.aload_n 0, 1) := by decide +kernel
theorem dX10_readsSpan_16 : decode cX10_readsSpan 16 = .ok (.getfield 140, 3) := by decide +kernel
theorem dX10_readsSpan_19 : decode cX10_readsSpan 19 = .ok (.iastore, 1) := by decide +kernel
theorem dX10_readsSpan_20 : decode cX10_readsSpan 20 = .ok (.aload_n 0, 1) := by decide +kernel
theorem dX10_readsSpan_21 : decode cX10_readsSpan 21 = .ok (.iload_n 1, 1) := by decide +kernel
theorem dX10_readsSpan_22 : decode cX10_readsSpan 22 = .ok (.bipush 44, 2) := by decide +kernel
theorem dX10_readsSpan_24 : decode cX10_readsSpan 24 = .ok (.invokevirtual 146, 3) := by decide +kernel
theorem dX10_readsSpan_27 : decode cX10_readsSpan 27 = .ok (.ifCond .eq 11, 3) := by decide +kernel
theorem dX10_readsSpan_30 : decode cX10_readsSpan 30 = .ok (.aload_n 0, 1) := by decide +kernel
theorem dX10_readsSpan_31 : decode cX10_readsSpan 31 = .ok (.iload_n 1, 1) := by decide +kernel
theorem dX10_readsSpan_32 : decode cX10_readsSpan 32 = .ok (.invokevirtual 143, 3) := by decide +kernel
theorem dX10_readsSpan_35 : decode cX10_readsSpan 35 = .ok (.ifCond .ne 5, 3) := by decide +kernel
theorem dX10_readsSpan_38 : decode cX10_readsSpan 38 = .ok (.iconst 0, 1) := by decide +kernel
theorem dX10_readsSpan_39 : decode cX10_readsSpan 39 = .ok (.ireturn, 1) := by decide +kernel
theorem dX10_readsSpan_40 : decode cX10_readsSpan 40 = .ok (.aload_n 0, 1) := by decide +kernel
theorem dX10_readsSpan_41 : decode cX10_readsSpan 41 = .ok (.getfield 38, 3) := by decide +kernel
theorem dX10_readsSpan_44 : decode cX10_readsSpan 44 = .ok (.iload_n 2, 1) := by decide +kernel
theorem dX10_readsSpan_45 : decode cX10_readsSpan 45 = .ok (.aload_n 0, 1) := by decide +kernel
theorem dX10_readsSpan_46 : decode cX10_readsSpan 46 = .ok (.getfield 140, 3) := by decide +kernel
theorem dX10_readsSpan_49 : decode cX10_readsSpan 49 = .ok (.iastore, 1) := by decide +kernel
theorem dX10_readsSpan_50 : decode cX10_readsSpan 50 = .ok (.aload_n 0, 1) := by decide +kernel
theorem dX10_readsSpan_51 : decode cX10_readsSpan 51 = .ok (.getfield 35, 3) := by decide +kernel
theorem dX10_readsSpan_54 : decode cX10_readsSpan 54 = .ok (.iload_n 2, 1) := by decide +kernel
theorem dX10_readsSpan_55 : decode cX10_readsSpan 55 = .ok (.iaload, 1) := by decide +kernel
theorem dX10_readsSpan_56 : decode cX10_readsSpan 56 = .ok (.aload_n 0, 1) := by decide +kernel
theorem dX10_readsSpan_57 : decode cX10_readsSpan 57 = .ok (.getfield 38, 3) := by decide +kernel
theorem dX10_readsSpan_60 : decode cX10_readsSpan 60 = .ok (.iload_n 2, 1) := by decide +kernel
theorem dX10_readsSpan_61 : decode cX10_readsSpan 61 = .ok (.iaload, 1) := by decide +kernel
theorem dX10_readsSpan_62 : decode cX10_readsSpan 62 = .ok (.if_icmp .gt 7, 3) := by decide +kernel
theorem dX10_readsSpan_65 : decode cX10_readsSpan 65 = .ok (.iconst 1, 1) := by decide +kernel
theorem dX10_readsSpan_66 : decode cX10_readsSpan 66 = .ok (.goto 4, 3) := by decide +kernel
theorem dX10_readsSpan_69 : decode cX10_readsSpan 69 = .ok (.iconst 0, 1) := by decide +kernel
theorem dX10_readsSpan_70 : decode cX10_readsSpan 70 = .ok (.ireturn, 1) := by decide +kernel
theorem dX10_isSign_0 : decode cX10_isSign 0 = .ok (.aload_n 0, 1) := by decide +kernel
theorem dX10_isSign_1 : decode cX10_isSign 1 = .ok (.iload_n 1, 1) := by decide +kernel
theorem dX10_isSign_2 : decode cX10_isSign 2 = .ok (.invokevirtual 137, 3) := by decide +kernel
theorem dX10_isSign_5 : decode cX10_isSign 5 = .ok (.bipush 48, 2) := by decide +kernel
theorem dX10_isSign_7 : decode cX10_isSign 7 = .ok (.bipush 57, 2) := by decide +kernel
theorem dX10_isSign_9 : decode cX10_isSign 9 = .ok (.invokestatic 103, 3) := by decide +kernel
theorem dX10_isSign_12 : decode cX10_isSign 12 = .ok (.ifCond .ne 23, 3) := by decide +kernel
theorem dX10_isSign_15 : decode cX10_isSign 15 = .ok (.aload_n 0, 1) := by decide +kernel
theorem dX10_isSign_16 : decode cX10_isSign 16 = .ok (.iload_n 1, 1) := by decide +kernel
theorem dX10_isSign_17 : decode cX10_isSign 17 = .ok (.invokevirtual 137, 3) := by decide +kernel
theorem dX10_isSign_20 : decode cX10_isSign 20 = .ok (.bipush 63, 2) := by decide +kernel
theorem dX10_isSign_22 : decode cX10_isSign 22 = .ok (.if_icmp .eq 13, 3) := by decide +kernel
theorem dX10_isSign_25 : decode cX10_isSign 25 = .ok (.aload_n 0, 1) := by decide +kernel
theorem dX10_isSign_26 : decode cX10_isSign 26 = .ok (.iload_n 1, 1) := by decide +kernel
theorem dX10_isSign_27 : decode cX10_isSign 27 = .ok (.invokevirtual 137, 3) := by decide +kernel
theorem dX10_isSign_30 : decode cX10_isSign 30 = .ok (.bipush 120, 2) := by decide +kernel
theorem dX10_isSign_32 : decode cX10_isSign 32 = .ok (.if_icmp .ne 7, 3) := by decide +kernel
theorem dX10_isSign_35 : decode cX10_isSign 35 = .ok (.iconst 1, 1) := by decide +kernel
theorem dX10_isSign_36 : decode cX10_isSign 36 = .ok (.goto 4, 3) := by decide +kernel
theorem dX10_isSign_39 : decode cX10_isSign 39 = .ok (.iconst 0, 1) := by decide +kernel
theorem dX10_isSign_40 : decode cX10_isSign 40 = .ok (.ireturn, 1) := by decide +kernel
theorem dX10_readsLetter_0 : decode cX10_readsLetter 0 = .ok (.aload_n 0, 1) := by decide +kernel
theorem dX10_readsLetter_1 : decode cX10_readsLetter 1 = .ok (.iload_n 1, 1) := by decide +kernel
theorem dX10_readsLetter_2 : decode cX10_readsLetter 2 = .ok (.invokevirtual 137, 3) := by decide +kernel
theorem dX10_readsLetter_5 : decode cX10_readsLetter 5 = .ok (.bipush 97, 2) := by decide +kernel
theorem dX10_readsLetter_7 : decode cX10_readsLetter 7 = .ok (.bipush 108, 2) := by decide +kernel
theorem dX10_readsLetter_9 : decode cX10_readsLetter 9 = .ok (.invokestatic 103, 3) := by decide +kernel
theorem dX10_readsLetter_12 : decode cX10_readsLetter 12 = .ok (.ifCond .ne 5, 3) := by decide +kernel
theorem dX10_readsLetter_15 : decode cX10_readsLetter 15 = .ok (.iconst 0, 1) := by decide +kernel
theorem dX10_readsLetter_16 : decode cX10_readsLetter 16 = .ok (.ireturn, 1) := by decide +kernel
theorem dX10_readsLetter_17 : decode cX10_readsLetter 17 = .ok (.aload_n 0, 1) := by decide +kernel
theorem dX10_readsLetter_18 : decode cX10_readsLetter 18 = .ok (.aload_n 0, 1) := by decide +kernel
theorem dX10_readsLetter_19 : decode cX10_readsLetter 19 = .ok (.iload_n 1, 1) := by decide +kernel
theorem dX10_readsLetter_20 : decode cX10_readsLetter 20 = .ok (.invokevirtual 137, 3) := by decide +kernel
theorem dX10_readsLetter_23 : decode cX10_readsLetter 23 = .ok (.bipush 97, 2) := by decide +kernel
theorem dX10_readsLetter_25 : decode cX10_readsLetter 25 = .ok (.isub, 1) := by decide +kernel
theorem dX10_readsLetter_26 : decode cX10_readsLetter 26 = .ok (.putfield 140, 3) := by decide +kernel
theorem dX10_readsLetter_29 : decode cX10_readsLetter 29 = .ok (.aload_n 0, 1) := by decide +kernel
theorem dX10_readsLetter_30 : decode cX10_readsLetter 30 = .ok (.dup, 1) := by decide +kernel
theorem dX10_readsLetter_31 : decode cX10_readsLetter 31 = .ok (.getfield 134, 3) := by decide +kernel
theorem dX10_readsLetter_34 : decode cX10_readsLetter 34 = .ok (.iconst 1, 1) := by decide +kernel
theorem dX10_readsLetter_35 : decode cX10_readsLetter 35 = .ok (.iadd, 1) := by decide +kernel
theorem dX10_readsLetter_36 : decode cX10_readsLetter 36 = .ok (.putfield 134, 3) := by decide +kernel
theorem dX10_readsLetter_39 : decode cX10_readsLetter 39 = .ok (.aload_n 0, 1) := by decide +kernel
theorem dX10_readsLetter_40 : decode cX10_readsLetter 40 = .ok (.getfield 140, 3) := by decide +kernel
theorem dX10_readsLetter_43 : decode cX10_readsLetter 43 = .ok (.iload_n 2, 1) := by decide +kernel
theorem dX10_readsLetter_44 : decode cX10_readsLetter 44 = .ok (.if_icmp .eq 7, 3) := by decide +kernel
theorem dX10_readsLetter_47 : decode cX10_readsLetter 47 = .ok (.iconst 1, 1) := by decide +kernel
theorem dX10_readsLetter_48 : decode cX10_readsLetter 48 = .ok (.goto 4, 3) := by decide +kernel
theorem dX10_readsLetter_51 : decode cX10_readsLetter 51 = .ok (.iconst 0, 1) := by decide +kernel
theorem dX10_readsLetter_52 : decode cX10_readsLetter 52 = .ok (.ireturn, 1) := by decide +kernel
theorem dX10_readsItem_0 : decode cX10_readsItem 0 = .ok (.aload_n 0, 1) := by decide +kernel
theorem dX10_readsItem_1 : decode cX10_readsItem 1 = .ok (.iload_n 1, 1) := by decide +kernel
theorem dX10_readsItem_2 : decode cX10_readsItem 2 = .ok (.bipush 91, 2) := by decide +kernel
theorem dX10_readsItem_4 : decode cX10_readsItem 4 = .ok (.invokevirtual 146, 3) := by decide +kernel
theorem dX10_readsItem_7 : decode cX10_readsItem 7 = .ok (.ifCond .eq 29, 3) := by decide +kernel
theorem dX10_readsItem_10 : decode cX10_readsItem 10 = .ok (.aload_n 0, 1) := by decide +kernel
theorem dX10_readsItem_11 : decode cX10_readsItem 11 = .ok (.iload_n 1, 1) := by decide +kernel
theorem dX10_readsItem_12 : decode cX10_readsItem 12 = .ok (.iload_n 2, 1) := by decide +kernel
theorem dX10_readsItem_13 : decode cX10_readsItem 13 = .ok (.invokevirtual 150, 3) := by decide +kernel
theorem dX10_readsItem_16 : decode cX10_readsItem 16 = .ok (.ifCond .eq 17, 3) := by decide +kernel
theorem dX10_readsItem_19 : decode cX10_readsItem 19 = .ok (.aload_n 0, 1) := by decide +kernel
theorem dX10_readsItem_20 : decode cX10_readsItem 20 = .ok (.iload_n 1, 1) := by decide +kernel
theorem dX10_readsItem_21 : decode cX10_readsItem 21 = .ok (.bipush 93, 2) := by decide +kernel
theorem dX10_readsItem_23 : decode cX10_readsItem 23 = .ok (.invokevirtual 146, 3) := by decide +kernel
theorem dX10_readsItem_26 : decode cX10_readsItem 26 = .ok (.ifCond .eq 7, 3) := by decide +kernel
theorem dX10_readsItem_29 : decode cX10_readsItem 29 = .ok (.iconst 0, 1) := by decide +kernel
theorem dX10_readsItem_30 : decode cX10_readsItem 30 = .ok (.goto 5, 3) := by decide +kernel
theorem dX10_readsItem_33 : decode cX10_readsItem 33 = .ok (.bipush (-9), 2) := by decide +kernel
theorem dX10_readsItem_35 : decode cX10_readsItem 35 = .ok (.ireturn, 1) := by decide +kernel
theorem dX10_readsItem_36 : decode cX10_readsItem 36 = .ok (.aload_n 0, 1) := by decide +kernel
theorem dX10_readsItem_37 : decode cX10_readsItem 37 = .ok (.iload_n 1, 1) := by decide +kernel
theorem dX10_readsItem_38 : decode cX10_readsItem 38 = .ok (.bipush 126, 2) := by decide +kernel
theorem dX10_readsItem_40 : decode cX10_readsItem 40 = .ok (.invokevirtual 146, 3) := by decide +kernel
theorem dX10_readsItem_43 : decode cX10_readsItem 43 = .ok (.ifCond .eq 19, 3) := by decide +kernel
theorem dX10_readsItem_46 : decode cX10_readsItem 46 = .ok (.aload_n 0, 1) := by decide +kernel
theorem dX10_readsItem_47 : decode cX10_readsItem 47 = .ok (.iload_n 1, 1) := by decide +kernel
theorem dX10_readsItem_48 : decode cX10_readsItem 48 = .ok (.iload_n 2, 1) := by decide +kernel
theorem dX10_readsItem_49 : decode cX10_readsItem 49 = .ok (.invokevirtual 150, 3) := by decide +kernel
theorem dX10_readsItem_52 : decode cX10_readsItem 52 = .ok (.ifCond .eq 7, 3) := by decide +kernel
theorem dX10_readsItem_55 : decode cX10_readsItem 55 = .ok (.iconst 5, 1) := by decide +kernel
theorem dX10_readsItem_56 : decode cX10_readsItem 56 = .ok (.goto 5, 3) := by decide +kernel
theorem dX10_readsItem_59 : decode cX10_readsItem 59 = .ok (.bipush (-9), 2) := by decide +kernel
theorem dX10_readsItem_61 : decode cX10_readsItem 61 = .ok (.ireturn, 1) := by decide +kernel
theorem dX10_readsItem_62 : decode cX10_readsItem 62 = .ok (.aload_n 0, 1) := by decide +kernel
theorem dX10_readsItem_63 : decode cX10_readsItem 63 = .ok (.iload_n 1, 1) := by decide +kernel
theorem dX10_readsItem_64 : decode cX10_readsItem 64 = .ok (.bipush 35, 2) := by decide +kernel
theorem dX10_readsItem_66 : decode cX10_readsItem 66 = .ok (.invokevirtual 146, 3) := by decide +kernel
theorem dX10_readsItem_69 : decode cX10_readsItem 69 = .ok (.ifCond .eq 5, 3) := by decide +kernel
theorem dX10_readsItem_72 : decode cX10_readsItem 72 = .ok (.iconst 3, 1) := by decide +kernel
theorem dX10_readsItem_73 : decode cX10_readsItem 73 = .ok (.ireturn, 1) := by decide +kernel
theorem dX10_readsItem_74 : decode cX10_readsItem 74 = .ok (.aload_n 0, 1) := by decide +kernel
theorem dX10_readsItem_75 : decode cX10_readsItem 75 = .ok (.iload_n 1, 1) := by decide +kernel
theorem dX10_readsItem_76 : decode cX10_readsItem 76 = .ok (.bipush 61, 2) := by decide +kernel
theorem dX10_readsItem_78 : decode cX10_readsItem 78 = .ok (.invokevirtual 146, 3) := by decide +kernel
theorem dX10_readsItem_81 : decode cX10_readsItem 81 = .ok (.ifCond .eq 86, 3) := by decide +kernel
theorem dX10_readsItem_84 : decode cX10_readsItem 84 = .ok (.aload_n 0, 1) := by decide +kernel
theorem dX10_readsItem_85 : decode cX10_readsItem 85 = .ok (.iload_n 1, 1) := by decide +kernel
theorem dX10_readsItem_86 : decode cX10_readsItem 86 = .ok (.invokevirtual 153, 3) := by decide +kernel
theorem dX10_readsItem_89 : decode cX10_readsItem 89 = .ok (.ifCond .ne 6, 3) := by decide +kernel
theorem dX10_readsItem_92 : decode cX10_readsItem 92 = .ok (.bipush (-9), 2) := by decide +kernel
theorem dX10_readsItem_94 : decode cX10_readsItem 94 = .ok (.ireturn, 1) := by decide +kernel
theorem dX10_readsItem_95 : decode cX10_readsItem 95 = .ok (.aload_n 0, 1) := by decide +kernel
theorem dX10_readsItem_96 : decode cX10_readsItem 96 = .ok (.getfield 35, 3) := by decide +kernel
theorem dX10_readsItem_99 : decode cX10_readsItem 99 = .ok (.iload_n 2, 1) := by decide +kernel
theorem dX10_readsItem_100 : decode cX10_readsItem 100 = .ok (.bipush (-9), 2) := by decide +kernel
theorem dX10_readsItem_102 : decode cX10_readsItem 102 = .ok (.iastore, 1) := by decide +kernel
theorem dX10_readsItem_103 : decode cX10_readsItem 103 = .ok (.aload_n 0, 1) := by decide +kernel
theorem dX10_readsItem_104 : decode cX10_readsItem 104 = .ok (.getfield 38, 3) := by decide +kernel
theorem dX10_readsItem_107 : decode cX10_readsItem 107 = .ok (.iload_n 2, 1) := by decide +kernel
theorem dX10_readsItem_108 : decode cX10_readsItem 108 = .ok (.aload_n 0, 1) := by decide +kernel
theorem dX10_readsItem_109 : decode cX10_readsItem 109 = .ok (.iload_n 1, 1) := by decide +kernel
theorem dX10_readsItem_110 : decode cX10_readsItem 110 = .ok (.invokevirtual 137, 3) := by decide +kernel
theorem dX10_readsItem_113 : decode cX10_readsItem 113 = .ok (.iastore, 1) := by decide +kernel
theorem dX10_readsItem_114 : decode cX10_readsItem 114 = .ok (.aload_n 0, 1) := by decide +kernel
theorem dX10_readsItem_115 : decode cX10_readsItem 115 = .ok (.dup, 1) := by decide +kernel
theorem dX10_readsItem_116 : decode cX10_readsItem 116 = .ok (.getfield 134, 3) := by decide +kernel
theorem dX10_readsItem_119 : decode cX10_readsItem 119 = .ok (.iconst 1, 1) := by decide +kernel
theorem dX10_readsItem_120 : decode cX10_readsItem 120 = .ok (.iadd, 1) := by decide +kernel
theorem dX10_readsItem_121 : decode cX10_readsItem 121 = .ok (.putfield 134, 3) := by decide +kernel
theorem dX10_readsItem_124 : decode cX10_readsItem 124 = .ok (.aload_n 0, 1) := by decide +kernel
theorem dX10_readsItem_125 : decode cX10_readsItem 125 = .ok (.iload_n 1, 1) := by decide +kernel
theorem dX10_readsItem_126 : decode cX10_readsItem 126 = .ok (.invokevirtual 153, 3) := by decide +kernel
theorem dX10_readsItem_129 : decode cX10_readsItem 129 = .ok (.ifCond .eq 36, 3) := by decide +kernel
theorem dX10_readsItem_132 : decode cX10_readsItem 132 = .ok (.aload_n 0, 1) := by decide +kernel
theorem dX10_readsItem_133 : decode cX10_readsItem 133 = .ok (.getfield 35, 3) := by decide +kernel
theorem dX10_readsItem_136 : decode cX10_readsItem 136 = .ok (.iload_n 2, 1) := by decide +kernel
theorem dX10_readsItem_137 : decode cX10_readsItem 137 = .ok (.aload_n 0, 1) := by decide +kernel
theorem dX10_readsItem_138 : decode cX10_readsItem 138 = .ok (.getfield 38, 3) := by decide +kernel
theorem dX10_readsItem_141 : decode cX10_readsItem 141 = .ok (.iload_n 2, 1) := by decide +kernel
theorem dX10_readsItem_142 : decode cX10_readsItem 142 = .ok (.iaload, 1) := by decide +kernel
theorem dX10_readsItem_143 : decode cX10_readsItem 143 = .ok (.iastore, 1) := by decide +kernel
theorem dX10_readsItem_144 : decode cX10_readsItem 144 = .ok (.aload_n 0, 1) := by decide +kernel
theorem dX10_readsItem_145 : decode cX10_readsItem 145 = .ok (.getfield 38, 3) := by decide +kernel
theorem dX10_readsItem_148 : decode cX10_readsItem 148 = .ok (.iload_n 2, 1) := by decide +kernel
theorem dX10_readsItem_149 : decode cX10_readsItem 149 = .ok (.aload_n 0, 1) := by decide +kernel
theorem dX10_readsItem_150 : decode cX10_readsItem 150 = .ok (.iload_n 1, 1) := by decide +kernel
theorem dX10_readsItem_151 : decode cX10_readsItem 151 = .ok (.invokevirtual 137, 3) := by decide +kernel
theorem dX10_readsItem_154 : decode cX10_readsItem 154 = .ok (.iastore, 1) := by decide +kernel
theorem dX10_readsItem_155 : decode cX10_readsItem 155 = .ok (.aload_n 0, 1) := by decide +kernel
theorem dX10_readsItem_156 : decode cX10_readsItem 156 = .ok (.dup, 1) := by decide +kernel
theorem dX10_readsItem_157 : decode cX10_readsItem 157 = .ok (.getfield 134, 3) := by decide +kernel
theorem dX10_readsItem_160 : decode cX10_readsItem 160 = .ok (.iconst 1, 1) := by decide +kernel
theorem dX10_readsItem_161 : decode cX10_readsItem 161 = .ok (.iadd, 1) := by decide +kernel
theorem dX10_readsItem_162 : decode cX10_readsItem 162 = .ok (.putfield 134, 3) := by decide +kernel
theorem dX10_readsItem_165 : decode cX10_readsItem 165 = .ok (.iconst 1, 1) := by decide +kernel
theorem dX10_readsItem_166 : decode cX10_readsItem 166 = .ok (.ireturn, 1) := by decide +kernel
theorem dX10_readsItem_167 : decode cX10_readsItem 167 = .ok (.aload_n 0, 1) := by decide +kernel
theorem dX10_readsItem_168 : decode cX10_readsItem 168 = .ok (.iload_n 1, 1) := by decide +kernel
theorem dX10_readsItem_169 : decode cX10_readsItem 169 = .ok (.bipush 62, 2) := by decide +kernel
theorem dX10_readsItem_171 : decode cX10_readsItem 171 = .ok (.invokevirtual 146, 3) := by decide +kernel
theorem dX10_readsItem_174 : decode cX10_readsItem 174 = .ok (.ifCond .eq 27, 3) := by decide +kernel
theorem dX10_readsItem_177 : decode cX10_readsItem 177 = .ok (.aload_n 0, 1) := by decide +kernel
theorem dX10_readsItem_178 : decode cX10_readsItem 178 = .ok (.iload_n 1, 1) := by decide +kernel
theorem dX10_readsItem_179 : decode cX10_readsItem 179 = .ok (.iload_n 2, 1) := by decide +kernel
theorem dX10_readsItem_180 : decode cX10_readsItem 180 = .ok (.invokevirtual 156, 3) := by decide +kernel
theorem dX10_readsItem_183 : decode cX10_readsItem 183 = .ok (.ifCond .ne 6, 3) := by decide +kernel
theorem dX10_readsItem_186 : decode cX10_readsItem 186 = .ok (.bipush (-9), 2) := by decide +kernel
theorem dX10_readsItem_188 : decode cX10_readsItem 188 = .ok (.ireturn, 1) := by decide +kernel
theorem dX10_readsItem_189 : decode cX10_readsItem 189 = .ok (.aload_n 0, 1) := by decide +kernel
theorem dX10_readsItem_190 : decode cX10_readsItem 190 = .ok (.getfield 35, 3) := by decide +kernel
theorem dX10_readsItem_193 : decode cX10_readsItem 193 = .ok (.iload_n 2, 1) := by decide +kernel
theorem dX10_readsItem_194 : decode cX10_readsItem 194 = .ok (.aload_n 0, 1) := by decide +kernel
theorem dX10_readsItem_195 : decode cX10_readsItem 195 = .ok (.getfield 140, 3) := by decide +kernel
theorem dX10_readsItem_198 : decode cX10_readsItem 198 = .ok (.iastore, 1) := by decide +kernel
theorem dX10_readsItem_199 : decode cX10_readsItem 199 = .ok (.iconst 4, 1) := by decide +kernel
theorem dX10_readsItem_200 : decode cX10_readsItem 200 = .ok (.ireturn, 1) := by decide +kernel
theorem dX10_readsItem_201 : decode cX10_readsItem 201 = .ok (.aload_n 0, 1) := by decide +kernel
theorem dX10_readsItem_202 : decode cX10_readsItem 202 = .ok (.iload_n 1, 1) := by decide +kernel
theorem dX10_readsItem_203 : decode cX10_readsItem 203 = .ok (.bipush 42, 2) := by decide +kernel
theorem dX10_readsItem_205 : decode cX10_readsItem 205 = .ok (.invokevirtual 146, 3) := by decide +kernel
theorem dX10_readsItem_208 : decode cX10_readsItem 208 = .ok (.ifCond .eq 12, 3) := by decide +kernel
theorem dX10_readsItem_211 : decode cX10_readsItem 211 = .ok (.aload_n 0, 1) := by decide +kernel
theorem dX10_readsItem_212 : decode cX10_readsItem 212 = .ok (.iload_n 1, 1) := by decide +kernel
theorem dX10_readsItem_213 : decode cX10_readsItem 213 = .ok (.iload_n 2, 1) := by decide +kernel
theorem dX10_readsItem_214 : decode cX10_readsItem 214 = .ok (.invokevirtual 156, 3) := by decide +kernel
theorem dX10_readsItem_217 : decode cX10_readsItem 217 = .ok (.ifCond .ne 6, 3) := by decide +kernel
theorem dX10_readsItem_220 : decode cX10_readsItem 220 = .ok (.bipush (-9), 2) := by decide +kernel
theorem dX10_readsItem_222 : decode cX10_readsItem 222 = .ok (.ireturn, 1) := by decide +kernel
theorem dX10_readsItem_223 : decode cX10_readsItem 223 = .ok (.aload_n 0, 1) := by decide +kernel
theorem dX10_readsItem_224 : decode cX10_readsItem 224 = .ok (.getfield 35, 3) := by decide +kernel
theorem dX10_readsItem_227 : decode cX10_readsItem 227 = .ok (.iload_n 2, 1) := by decide +kernel
theorem dX10_readsItem_228 : decode cX10_readsItem 228 = .ok (.aload_n 0, 1) := by decide +kernel
theorem dX10_readsItem_229 : decode cX10_readsItem 229 = .ok (.getfield 140, 3) := by decide +kernel
theorem dX10_readsItem_232 : decode cX10_readsItem 232 = .ok (.iastore, 1) := by decide +kernel
theorem dX10_readsItem_233 : decode cX10_readsItem 233 = .ok (.aload_n 0, 1) := by decide +kernel
theorem dX10_readsItem_234 : decode cX10_readsItem 234 = .ok (.iload_n 1, 1) := by decide +kernel
theorem dX10_readsItem_235 : decode cX10_readsItem 235 = .ok (.iload_n 2, 1) := by decide +kernel
theorem dX10_readsItem_236 : decode cX10_readsItem 236 = .ok (.invokevirtual 156, 3) := by decide +kernel
theorem dX10_readsItem_239 : decode cX10_readsItem 239 = .ok (.ifCond .ne 6, 3) := by decide +kernel
theorem dX10_readsItem_242 : decode cX10_readsItem 242 = .ok (.bipush (-9), 2) := by decide +kernel
theorem dX10_readsItem_244 : decode cX10_readsItem 244 = .ok (.ireturn, 1) := by decide +kernel
theorem dX10_readsItem_245 : decode cX10_readsItem 245 = .ok (.aload_n 0, 1) := by decide +kernel
theorem dX10_readsItem_246 : decode cX10_readsItem 246 = .ok (.getfield 38, 3) := by decide +kernel
theorem dX10_readsItem_249 : decode cX10_readsItem 249 = .ok (.iload_n 2, 1) := by decide +kernel
theorem dX10_readsItem_250 : decode cX10_readsItem 250 = .ok (.aload_n 0, 1) := by decide +kernel
theorem dX10_readsItem_251 : decode cX10_readsItem 251 = .ok (.getfield 140, 3) := by decide +kernel
theorem dX10_readsItem_254 : decode cX10_readsItem 254 = .ok (.iastore, 1) := by decide +kernel
theorem dX10_readsItem_255 : decode cX10_readsItem 255 = .ok (.iconst 2, 1) := by decide +kernel
theorem dX10_readsItem_256 : decode cX10_readsItem 256 = .ok (.ireturn, 1) := by decide +kernel
theorem dX10_reads_0 : decode cX10_reads 0 = .ok (.iconst 0, 1) := by decide +kernel
theorem dX10_reads_1 : decode cX10_reads 1 = .ok (.istore_n 2, 1) := by decide +kernel
theorem dX10_reads_2 : decode cX10_reads 2 = .ok (.iload_n 2, 1) := by decide +kernel
theorem dX10_reads_3 : decode cX10_reads 3 = .ok (.bipush 12, 2) := by decide +kernel
theorem dX10_reads_5 : decode cX10_reads 5 = .ok (.if_icmp .ge 17, 3) := by decide +kernel
theorem dX10_reads_8 : decode cX10_reads 8 = .ok (.aload_n 0, 1) := by decide +kernel
theorem dX10_reads_9 : decode cX10_reads 9 = .ok (.getfield 32, 3) := by decide +kernel
theorem dX10_reads_12 : decode cX10_reads 12 = .ok (.iload_n 2, 1) := by decide +kernel
theorem dX10_reads_13 : decode cX10_reads 13 = .ok (.bipush (-9), 2) := by decide +kernel
theorem dX10_reads_15 : decode cX10_reads 15 = .ok (.iastore, 1) := by decide +kernel
theorem dX10_reads_16 : decode cX10_reads 16 = .ok (.iinc 2 1, 3) := by decide +kernel
theorem dX10_reads_19 : decode cX10_reads 19 = .ok (.goto (-17), 3) := by decide +kernel
theorem dX10_reads_22 : decode cX10_reads 22 = .ok (.aload_n 0, 1) := by decide +kernel
theorem dX10_reads_23 : decode cX10_reads 23 = .ok (.iconst 0, 1) := by decide +kernel
theorem dX10_reads_24 : decode cX10_reads 24 = .ok (.putfield 134, 3) := by decide +kernel
theorem dX10_reads_27 : decode cX10_reads 27 = .ok (.aload_n 0, 1) := by decide +kernel
theorem dX10_reads_28 : decode cX10_reads 28 = .ok (.getfield 134, 3) := by decide +kernel
theorem dX10_reads_31 : decode cX10_reads 31 = .ok (.aload_n 0, 1) := by decide +kernel
theorem dX10_reads_32 : decode cX10_reads 32 = .ok (.getfield 26, 3) := by decide +kernel
theorem dX10_reads_35 : decode cX10_reads 35 = .ok (.iload_n 1, 1) := by decide +kernel
theorem dX10_reads_36 : decode cX10_reads 36 = .ok (.iaload, 1) := by decide +kernel
theorem dX10_reads_37 : decode cX10_reads 37 = .ok (.if_icmp .ge 91, 3) := by decide +kernel
theorem dX10_reads_40 : decode cX10_reads 40 = .ok (.aload_n 0, 1) := by decide +kernel
theorem dX10_reads_41 : decode cX10_reads 41 = .ok (.iload_n 1, 1) := by decide +kernel
theorem dX10_reads_42 : decode cX10_reads 42 = .ok (.invokevirtual 137, 3) := by decide +kernel
theorem dX10_reads_45 : decode cX10_reads 45 = .ok (.bipush 32, 2) := by decide +kernel
theorem dX10_reads_47 : decode cX10_reads 47 = .ok (.if_icmp .ne 16, 3) := by decide +kernel
theorem dX10_reads_50 : decode cX10_reads 50 = .ok (.aload_n 0, 1) := by decide +kernel
theorem dX10_reads_51 : decode cX10_reads 51 = .ok (.dup, 1) := by decide +kernel
theorem dX10_reads_52 : decode cX10_reads 52 = .ok (.getfield 134, 3) := by decide +kernel
theorem dX10_reads_55 : decode cX10_reads 55 = .ok (.iconst 1, 1) := by decide +kernel
theorem dX10_reads_56 : decode cX10_reads 56 = .ok (.iadd, 1) := by decide +kernel
theorem dX10_reads_57 : decode cX10_reads 57 = .ok (.putfield 134, 3) := by decide +kernel
theorem dX10_reads_60 : decode cX10_reads 60 = .ok (.goto (-33), 3) := by decide +kernel
theorem dX10_reads_63 : decode cX10_reads 63 = .ok (.aload_n 0, 1) := by decide +kernel
theorem dX10_reads_64 : decode cX10_reads 64 = .ok (.iload_n 1, 1) := by decide +kernel
theorem dX10_reads_65 : decode cX10_reads 65 = .ok (.invokevirtual 137, 3) := by decide +kernel
theorem dX10_reads_68 : decode cX10_reads 68 = .ok (.bipush 97, 2) := by decide +kernel
theorem dX10_reads_70 : decode cX10_reads 70 = .ok (.bipush 108, 2) := by decide +kernel
theorem dX10_reads_72 : decode cX10_reads 72 = .ok (.invokestatic 103, 3) := by decide +kernel
theorem dX10_reads_75 : decode cX10_reads 75 = .ok (.ifCond .ne 8, 3) := by decide +kernel
theorem dX10_reads_78 : decode cX10_reads 78 = .ok (.aload_n 0, 1) := by decide +kernel
theorem dX10_reads_79 : decode cX10_reads 79 = .ok (.getfield 134, 3) := by decide +kernel
theorem dX10_reads_82 : decode cX10_reads 82 = .ok (.ireturn, 1) := by decide +kernel
theorem dX10_reads_83 : decode cX10_reads 83 = .ok (.aload_n 0, 1) := by decide +kernel
theorem dX10_reads_84 : decode cX10_reads 84 = .ok (.iload_n 1, 1) := by decide +kernel
theorem dX10_reads_85 : decode cX10_reads 85 = .ok (.invokevirtual 137, 3) := by decide +kernel
theorem dX10_reads_88 : decode cX10_reads 88 = .ok (.bipush 97, 2) := by decide +kernel
theorem dX10_reads_90 : decode cX10_reads 90 = .ok (.isub, 1) := by decide +kernel
theorem dX10_reads_91 : decode cX10_reads 91 = .ok (.istore_n 2, 1) := by decide +kernel
theorem dX10_reads_92 : decode cX10_reads 92 = .ok (.aload_n 0, 1) := by decide +kernel
theorem dX10_reads_93 : decode cX10_reads 93 = .ok (.dup, 1) := by decide +kernel
theorem dX10_reads_94 : decode cX10_reads 94 = .ok (.getfield 134, 3) := by decide +kernel
theorem dX10_reads_97 : decode cX10_reads 97 = .ok (.iconst 1, 1) := by decide +kernel
theorem dX10_reads_98 : decode cX10_reads 98 = .ok (.iadd, 1) := by decide +kernel
theorem dX10_reads_99 : decode cX10_reads 99 = .ok (.putfield 134, 3) := by decide +kernel
theorem dX10_reads_102 : decode cX10_reads 102 = .ok (.aload_n 0, 1) := by decide +kernel
theorem dX10_reads_103 : decode cX10_reads 103 = .ok (.iload_n 1, 1) := by decide +kernel
theorem dX10_reads_104 : decode cX10_reads 104 = .ok (.iload_n 2, 1) := by decide +kernel
theorem dX10_reads_105 : decode cX10_reads 105 = .ok (.invokevirtual 159, 3) := by decide +kernel
theorem dX10_reads_108 : decode cX10_reads 108 = .ok (.istore_n 3, 1) := by decide +kernel
theorem dX10_reads_109 : decode cX10_reads 109 = .ok (.iload_n 3, 1) := by decide +kernel
theorem dX10_reads_110 : decode cX10_reads 110 = .ok (.ifCond .ge 8, 3) := by decide +kernel
theorem dX10_reads_113 : decode cX10_reads 113 = .ok (.aload_n 0, 1) := by decide +kernel
theorem dX10_reads_114 : decode cX10_reads 114 = .ok (.getfield 134, 3) := by decide +kernel
theorem dX10_reads_117 : decode cX10_reads 117 = .ok (.ireturn, 1) := by decide +kernel
theorem dX10_reads_118 : decode cX10_reads 118 = .ok (.aload_n 0, 1) := by decide +kernel
theorem dX10_reads_119 : decode cX10_reads 119 = .ok (.getfield 32, 3) := by decide +kernel
theorem dX10_reads_122 : decode cX10_reads 122 = .ok (.iload_n 2, 1) := by decide +kernel
theorem dX10_reads_123 : decode cX10_reads 123 = .ok (.iload_n 3, 1) := by decide +kernel
theorem dX10_reads_124 : decode cX10_reads 124 = .ok (.iastore, 1) := by decide +kernel
theorem dX10_reads_125 : decode cX10_reads 125 = .ok (.goto (-98), 3) := by decide +kernel
theorem dX10_reads_128 : decode cX10_reads 128 = .ok (.bipush (-9), 2) := by decide +kernel
theorem dX10_reads_130 : decode cX10_reads 130 = .ok (.ireturn, 1) := by decide +kernel
theorem dX10_fault_0 : decode cX10_fault 0 = .ok (.aload_n 0, 1) := by decide +kernel
theorem dX10_fault_1 : decode cX10_fault 1 = .ok (.iload_n 1, 1) := by decide +kernel
theorem dX10_fault_2 : decode cX10_fault 2 = .ok (.invokevirtual 131, 3) := by decide +kernel
theorem dX10_fault_5 : decode cX10_fault 5 = .ok (.istore_n 2, 1) := by decide +kernel
theorem dX10_fault_6 : decode cX10_fault 6 = .ok (.iload_n 2, 1) := by decide +kernel
theorem dX10_fault_7 : decode cX10_fault 7 = .ok (.ifCond .ge 7, 3) := by decide +kernel
theorem dX10_fault_10 : decode cX10_fault 10 = .ok (.iload_n 2, 1) := by decide +kernel
theorem dX10_fault_11 : decode cX10_fault 11 = .ok (.goto 8, 3) := by decide +kernel
theorem dX10_fault_14 : decode cX10_fault 14 = .ok (.aload_n 0, 1) := by decide +kernel
theorem dX10_fault_15 : decode cX10_fault 15 = .ok (.iload_n 1, 1) := by decide +kernel
theorem dX10_fault_16 : decode cX10_fault 16 = .ok (.invokevirtual 162, 3) := by decide +kernel
theorem dX10_fault_19 : decode cX10_fault 19 = .ok (.ireturn, 1) := by decide +kernel
theorem dX10_book_0 : decode cX10_book 0 = .ok (.aload_n 0, 1) := by decide +kernel
theorem dX10_book_1 : decode cX10_book 1 = .ok (.iload_n 1, 1) := by decide +kernel
theorem dX10_book_2 : decode cX10_book 2 = .ok (.invokevirtual 131, 3) := by decide +kernel
theorem dX10_book_5 : decode cX10_book 5 = .ok (.istore_n 2, 1) := by decide +kernel
theorem dX10_book_6 : decode cX10_book 6 = .ok (.iload_n 2, 1) := by decide +kernel
theorem dX10_book_7 : decode cX10_book 7 = .ok (.ifCond .ge 5, 3) := by decide +kernel
theorem dX10_book_10 : decode cX10_book 10 = .ok (.iload_n 2, 1) := by decide +kernel
theorem dX10_book_11 : decode cX10_book 11 = .ok (.ireturn, 1) := by decide +kernel
theorem dX10_book_12 : decode cX10_book 12 = .ok (.aload_n 0, 1) := by decide +kernel
theorem dX10_book_13 : decode cX10_book 13 = .ok (.iload_n 1, 1) := by decide +kernel
theorem dX10_book_14 : decode cX10_book 14 = .ok (.invokevirtual 162, 3) := by decide +kernel
theorem dX10_book_17 : decode cX10_book 17 = .ok (.bipush (-9), 2) := by decide +kernel
theorem dX10_book_19 : decode cX10_book 19 = .ok (.if_icmp .eq 6, 3) := by decide +kernel
theorem dX10_book_22 : decode cX10_book 22 = .ok (.bipush (-4), 2) := by decide +kernel
theorem dX10_book_24 : decode cX10_book 24 = .ok (.ireturn, 1) := by decide +kernel
theorem dX10_book_25 : decode cX10_book 25 = .ok (.iconst 0, 1) := by decide +kernel
theorem dX10_book_26 : decode cX10_book 26 = .ok (.istore_n 3, 1) := by decide +kernel
theorem dX10_book_27 : decode cX10_book 27 = .ok (.iload_n 3, 1) := by decide +kernel
theorem dX10_book_28 : decode cX10_book 28 = .ok (.bipush 12, 2) := by decide +kernel
theorem dX10_book_30 : decode cX10_book 30 = .ok (.if_icmp .ge 45, 3) := by decide +kernel
theorem dX10_book_33 : decode cX10_book 33 = .ok (.aload_n 0, 1) := by decide +kernel
theorem dX10_book_34 : decode cX10_book 34 = .ok (.getfield 41, 3) := by decide +kernel
theorem dX10_book_37 : decode cX10_book 37 = .ok (.iload_n 3, 1) := by decide +kernel
theorem dX10_book_38 : decode cX10_book 38 = .ok (.aload_n 0, 1) := by decide +kernel
theorem dX10_book_39 : decode cX10_book 39 = .ok (.getfield 32, 3) := by decide +kernel
theorem dX10_book_42 : decode cX10_book 42 = .ok (.iload_n 3, 1) := by decide +kernel
theorem dX10_book_43 : decode cX10_book 43 = .ok (.iaload, 1) := by decide +kernel
theorem dX10_book_44 : decode cX10_book 44 = .ok (.iastore, 1) := by decide +kernel
theorem dX10_book_45 : decode cX10_book 45 = .ok (.aload_n 0, 1) := by decide +kernel
theorem dX10_book_46 : decode cX10_book 46 = .ok (.getfield 44, 3) := by decide +kernel
theorem dX10_book_49 : decode cX10_book 49 = .ok (.iload_n 3, 1) := by decide +kernel
theorem dX10_book_50 : decode cX10_book 50 = .ok (.aload_n 0, 1) := by decide +kernel
theorem dX10_book_51 : decode cX10_book 51 = .ok (.getfield 35, 3) := by decide +kernel
theorem dX10_book_54 : decode cX10_book 54 = .ok (.iload_n 3, 1) := by decide +kernel
theorem dX10_book_55 : decode cX10_book 55 = .ok (.iaload, 1) := by decide +kernel
theorem dX10_book_56 : decode cX10_book 56 = .ok (.iastore, 1) := by decide +kernel
theorem dX10_book_57 : decode cX10_book 57 = .ok (.aload_n 0, 1) := by decide +kernel
theorem dX10_book_58 : decode cX10_book 58 = .ok (.getfield 47, 3) := by decide +kernel
theorem dX10_book_61 : decode cX10_book 61 = .ok (.iload_n 3, 1) := by decide +kernel
theorem dX10_book_62 : decode cX10_book 62 = .ok (.aload_n 0, 1) := by decide +kernel
theorem dX10_book_63 : decode cX10_book 63 = .ok (.getfield 38, 3) := by decide +kernel
theorem dX10_book_66 : decode cX10_book 66 = .ok (.iload_n 3, 1) := by decide +kernel
theorem dX10_book_67 : decode cX10_book 67 = .ok (.iaload, 1) := by decide +kernel
theorem dX10_book_68 : decode cX10_book 68 = .ok (.iastore, 1) := by decide +kernel
theorem dX10_book_69 : decode cX10_book 69 = .ok (.iinc 3 1, 3) := by decide +kernel
theorem dX10_book_72 : decode cX10_book 72 = .ok (.goto (-45), 3) := by decide +kernel
theorem dX10_book_75 : decode cX10_book 75 = .ok (.aload_n 0, 1) := by decide +kernel
theorem dX10_book_76 : decode cX10_book 76 = .ok (.invokevirtual 165, 3) := by decide +kernel
theorem dX10_book_79 : decode cX10_book 79 = .ok (.ireturn, 1) := by decide +kernel
theorem dX10_cells_0 : decode cX10_cells 0 = .ok (.iconst 0, 1) := by decide +kernel
theorem dX10_cells_1 : decode cX10_cells 1 = .ok (.istore_n 1, 1) := by decide +kernel
theorem dX10_cells_2 : decode cX10_cells 2 = .ok (.iconst 0, 1) := by decide +kernel
theorem dX10_cells_3 : decode cX10_cells 3 = .ok (.istore_n 2, 1) := by decide +kernel
theorem dX10_cells_4 : decode cX10_cells 4 = .ok (.iload_n 2, 1) := by decide +kernel
theorem dX10_cells_5 : decode cX10_cells 5 = .ok (.bipush 12, 2) := by decide +kernel
theorem dX10_cells_7 : decode cX10_cells 7 = .ok (.if_icmp .ge 26, 3) := by decide +kernel
theorem dX10_cells_10 : decode cX10_cells 10 = .ok (.iload_n 1, 1) := by decide +kernel
theorem dX10_cells_11 : decode cX10_cells 11 = .ok (.aload_n 0, 1) := by decide +kernel
theorem dX10_cells_12 : decode cX10_cells 12 = .ok (.getfield 41, 3) := by decide +kernel
theorem dX10_cells_15 : decode cX10_cells 15 = .ok (.iload_n 2, 1) := by decide +kernel
theorem dX10_cells_16 : decode cX10_cells 16 = .ok (.iaload, 1) := by decide +kernel
theorem dX10_cells_17 : decode cX10_cells 17 = .ok (.ifCond .lt 7, 3) := by decide +kernel
theorem dX10_cells_20 : decode cX10_cells 20 = .ok (.iconst 1, 1) := by decide +kernel
theorem dX10_cells_21 : decode cX10_cells 21 = .ok (.goto 4, 3) := by decide +kernel
theorem dX10_cells_24 : decode cX10_cells 24 = .ok (.iconst 0, 1) := by decide +kernel
theorem dX10_cells_25 : decode cX10_cells 25 = .ok (.iadd, 1) := by decide +kernel
theorem dX10_cells_26 : decode cX10_cells 26 = .ok (.istore_n 1, 1) := by decide +kernel
theorem dX10_cells_27 : decode cX10_cells 27 = .ok (.iinc 2 1, 3) := by decide +kernel
theorem dX10_cells_30 : decode cX10_cells 30 = .ok (.goto (-26), 3) := by decide +kernel
theorem dX10_cells_33 : decode cX10_cells 33 = .ok (.iload_n 1, 1) := by decide +kernel
theorem dX10_cells_34 : decode cX10_cells 34 = .ok (.ireturn, 1) := by decide +kernel
theorem dX10_isTotal_0 : decode cX10_isTotal 0 = .ok (.iload_n 0, 1) := by decide +kernel
theorem dX10_isTotal_1 : decode cX10_isTotal 1 = .ok (.sipush (-999), 3) := by decide +kernel
theorem dX10_isTotal_4 : decode cX10_isTotal 4 = .ok (.sipush 9999, 3) := by decide +kernel
theorem dX10_isTotal_7 : decode cX10_isTotal 7 = .ok (.invokestatic 103, 3) := by decide +kernel
theorem dX10_isTotal_10 : decode cX10_isTotal 10 = .ok (.ireturn, 1) := by decide +kernel
theorem dX10_sum_0 : decode cX10_sum 0 = .ok (.iload_n 1, 1) := by decide +kernel
theorem dX10_sum_1 : decode cX10_sum 1 = .ok (.iconst 0, 1) := by decide +kernel
theorem dX10_sum_2 : decode cX10_sum 2 = .ok (.sipush 4095, 3) := by decide +kernel
theorem dX10_sum_5 : decode cX10_sum 5 = .ok (.invokestatic 103, 3) := by decide +kernel
theorem dX10_sum_8 : decode cX10_sum 8 = .ok (.ifCond .eq 33, 3) := by decide +kernel
theorem dX10_sum_11 : decode cX10_sum 11 = .ok (.iload_n 2, 1) := by decide +kernel
theorem dX10_sum_12 : decode cX10_sum 12 = .ok (.iconst 0, 1) := by decide +kernel
theorem dX10_sum_13 : decode cX10_sum 13 = .ok (.sipush 4095, 3) := by decide +kernel
theorem dX10_sum_16 : decode cX10_sum 16 = .ok (.invokestatic 103, 3) := by decide +kernel
theorem dX10_sum_19 : decode cX10_sum 19 = .ok (.ifCond .eq 22, 3) := by decide +kernel
theorem dX10_sum_22 : decode cX10_sum 22 = .ok (.iload_n 1, 1) := by decide +kernel
theorem dX10_sum_23 : decode cX10_sum 23 = .ok (.iload_n 2, 1) := by decide +kernel
theorem dX10_sum_24 : decode cX10_sum 24 = .ok (.ior, 1) := by decide +kernel
theorem dX10_sum_25 : decode cX10_sum 25 = .ok (.ifCond .eq 16, 3) := by decide +kernel
theorem dX10_sum_28 : decode cX10_sum 28 = .ok (.iload_n 1, 1) := by decide +kernel
theorem dX10_sum_29 : decode cX10_sum 29 = .ok (.iload_n 2, 1) := by decide +kernel
theorem dX10_sum_30 : decode cX10_sum 30 = .ok (.iand, 1) := by decide +kernel
theorem dX10_sum_31 : decode cX10_sum 31 = .ok (.ifCond .ne 10, 3) := by decide +kernel
theorem dX10_sum_34 : decode cX10_sum 34 = .ok (.iload_n 3, 1) := by decide +kernel
theorem dX10_sum_35 : decode cX10_sum 35 = .ok (.invokestatic 169, 3) := by decide +kernel
theorem dX10_sum_38 : decode cX10_sum 38 = .ok (.ifCond .ne 5, 3) := by decide +kernel
theorem dX10_sum_41 : decode cX10_sum 41 = .ok (.iconst (-1), 1) := by decide +kernel
theorem dX10_sum_42 : decode cX10_sum 42 = .ok (.ireturn, 1) := by decide +kernel
theorem dX10_sum_43 : decode cX10_sum 43 = .ok (.aload_n 0, 1) := by decide +kernel
theorem dX10_sum_44 : decode cX10_sum 44 = .ok (.getfield 172, 3) := by decide +kernel
theorem dX10_sum_47 : decode cX10_sum 47 = .ok (.bipush 8, 2) := by decide +kernel
theorem dX10_sum_49 : decode cX10_sum 49 = .ok (.if_icmp .ne 6, 3) := by decide +kernel
theorem dX10_sum_52 : decode cX10_sum 52 = .ok (.bipush (-2), 2) := by decide +kernel
theorem dX10_sum_54 : decode cX10_sum 54 = .ok (.ireturn, 1) := by decide +kernel
theorem dX10_sum_55 : decode cX10_sum 55 = .ok (.aload_n 0, 1) := by decide +kernel
theorem dX10_sum_56 : decode cX10_sum 56 = .ok (.getfield 50, 3) := by decide +kernel
theorem dX10_sum_59 : decode cX10_sum 59 = .ok (.aload_n 0, 1) := by decide +kernel
theorem dX10_sum_60 : decode cX10_sum 60 = .ok (.getfield 172, 3) := by decide +kernel
theorem dX10_sum_63 : decode cX10_sum 63 = .ok (.iload_n 1, 1) := by decide +kernel
theorem dX10_sum_64 : decode cX10_sum 64 = .ok (.iastore, 1) := by decide +kernel
theorem dX10_sum_65 : decode cX10_sum 65 = .ok (.aload_n 0, 1) := by decide +kernel
theorem dX10_sum_66 : decode cX10_sum 66 = .ok (.getfield 53, 3) := by decide +kernel
theorem dX10_sum_69 : decode cX10_sum 69 = .ok (.aload_n 0, 1) := by decide +kernel
theorem dX10_sum_70 : decode cX10_sum 70 = .ok (.getfield 172, 3) := by decide +kernel
theorem dX10_sum_73 : decode cX10_sum 73 = .ok (.iload_n 2, 1) := by decide +kernel
theorem dX10_sum_74 : decode cX10_sum 74 = .ok (.iastore, 1) := by decide +kernel
theorem dX10_sum_75 : decode cX10_sum 75 = .ok (.aload_n 0, 1) := by decide +kernel
theorem dX10_sum_76 : decode cX10_sum 76 = .ok (.getfield 56, 3) := by decide +kernel
theorem dX10_sum_79 : decode cX10_sum 79 = .ok (.aload_n 0, 1) := by decide +kernel
theorem dX10_sum_80 : decode cX10_sum 80 = .ok (.getfield 172, 3) := by decide +kernel
theorem dX10_sum_83 : decode cX10_sum 83 = .ok (.iload_n 3, 1) := by decide +kernel
theorem dX10_sum_84 : decode cX10_sum 84 = .ok (.iastore, 1) := by decide +kernel
theorem dX10_sum_85 : decode cX10_sum 85 = .ok (.aload_n 0, 1) := by decide +kernel
theorem dX10_sum_86 : decode cX10_sum 86 = .ok (.dup, 1) := by decide +kernel
theorem dX10_sum_87 : decode cX10_sum 87 = .ok (.getfield 172, 3) := by decide +kernel
theorem dX10_sum_90 : decode cX10_sum 90 = .ok (.iconst 1, 1) := by decide +kernel
theorem dX10_sum_91 : decode cX10_sum 91 = .ok (.iadd, 1) := by decide +kernel
theorem dX10_sum_92 : decode cX10_sum 92 = .ok (.putfield 172, 3) := by decide +kernel
theorem dX10_sum_95 : decode cX10_sum 95 = .ok (.aload_n 0, 1) := by decide +kernel
theorem dX10_sum_96 : decode cX10_sum 96 = .ok (.getfield 172, 3) := by decide +kernel
theorem dX10_sum_99 : decode cX10_sum 99 = .ok (.ireturn, 1) := by decide +kernel
theorem dX10_total_0 : decode cX10_total 0 = .ok (.iload_n 1, 1) := by decide +kernel
theorem dX10_total_1 : decode cX10_total 1 = .ok (.iconst 0, 1) := by decide +kernel
theorem dX10_total_2 : decode cX10_total 2 = .ok (.aload_n 0, 1) := by decide +kernel
theorem dX10_total_3 : decode cX10_total 3 = .ok (.getfield 172, 3) := by decide +kernel
theorem dX10_total_6 : decode cX10_total 6 = .ok (.iconst 1, 1) := by decide +kernel
theorem dX10_total_7 : decode cX10_total 7 = .ok (.isub, 1) := by decide +kernel
theorem dX10_total_8 : decode cX10_total 8 = .ok (.invokestatic 103, 3) := by decide +kernel
theorem dX10_total_11 : decode cX10_total 11 = .ok (.ifCond .eq 10, 3) := by decide +kernel
theorem dX10_total_14 : decode cX10_total 14 = .ok (.iload_n 2, 1) := by decide +kernel
theorem dX10_total_15 : decode cX10_total 15 = .ok (.invokestatic 169, 3) := by decide +kernel
theorem dX10_total_18 : decode cX10_total 18 = .ok (.ifCond .ne 5, 3) := by decide +kernel
theorem dX10_total_21 : decode cX10_total 21 = .ok (.iconst (-1), 1) := by decide +kernel
theorem dX10_total_22 : decode cX10_total 22 = .ok (.ireturn, 1) := by decide +kernel
theorem dX10_total_23 : decode cX10_total 23 = .ok (.aload_n 0, 1) := by decide +kernel
theorem dX10_total_24 : decode cX10_total 24 = .ok (.getfield 56, 3) := by decide +kernel
theorem dX10_total_27 : decode cX10_total 27 = .ok (.iload_n 1, 1) := by decide +kernel
theorem dX10_total_28 : decode cX10_total 28 = .ok (.iaload, 1) := by decide +kernel
theorem dX10_total_29 : decode cX10_total 29 = .ok (.istore_n 3, 1) := by decide +kernel
theorem dX10_total_30 : decode cX10_total 30 = .ok (.aload_n 0, 1) := by decide +kernel
theorem dX10_total_31 : decode cX10_total 31 = .ok (.getfield 56, 3) := by decide +kernel
theorem dX10_total_34 : decode cX10_total 34 = .ok (.iload_n 1, 1) := by decide +kernel
theorem dX10_total_35 : decode cX10_total 35 = .ok (.iload_n 2, 1) := by decide +kernel
theorem dX10_total_36 : decode cX10_total 36 = .ok (.iastore, 1) := by decide +kernel
theorem dX10_total_37 : decode cX10_total 37 = .ok (.iload_n 3, 1) := by decide +kernel
theorem dX10_total_38 : decode cX10_total 38 = .ok (.ireturn, 1) := by decide +kernel
theorem dX10_clear_0 : decode cX10_clear 0 = .ok (.aload_n 0, 1) := by decide +kernel
theorem dX10_clear_1 : decode cX10_clear 1 = .ok (.getfield 172, 3) := by decide +kernel
theorem dX10_clear_4 : decode cX10_clear 4 = .ok (.istore_n 1, 1) := by decide +kernel
theorem dX10_clear_5 : decode cX10_clear 5 = .ok (.aload_n 0, 1) := by decide +kernel
theorem dX10_clear_6 : decode cX10_clear 6 = .ok (.iconst 0, 1) := by decide +kernel
theorem dX10_clear_7 : decode cX10_clear 7 = .ok (.putfield 172, 3) := by decide +kernel
theorem dX10_clear_10 : decode cX10_clear 10 = .ok (.iload_n 1, 1) := by decide +kernel
theorem dX10_clear_11 : decode cX10_clear 11 = .ok (.ireturn, 1) := by decide +kernel
theorem dX10_heap_0 : decode cX10_heap 0 = .ok (.aload_n 0, 1) := by decide +kernel
theorem dX10_heap_1 : decode cX10_heap 1 = .ok (.iload_n 1, 1) := by decide +kernel
theorem dX10_heap_2 : decode cX10_heap 2 = .ok (.invokevirtual 118, 3) := by decide +kernel
theorem dX10_heap_5 : decode cX10_heap 5 = .ok (.istore_n 2, 1) := by decide +kernel
theorem dX10_heap_6 : decode cX10_heap 6 = .ok (.iload_n 2, 1) := by decide +kernel
theorem dX10_heap_7 : decode cX10_heap 7 = .ok (.ifCond .ge 5, 3) := by decide +kernel
theorem dX10_heap_10 : decode cX10_heap 10 = .ok (.iload_n 2, 1) := by decide +kernel
theorem dX10_heap_11 : decode cX10_heap 11 = .ok (.ireturn, 1) := by decide +kernel
theorem dX10_heap_12 : decode cX10_heap 12 = .ok (.aload_n 0, 1) := by decide +kernel
theorem dX10_heap_13 : decode cX10_heap 13 = .ok (.getfield 17, 3) := by decide +kernel
theorem dX10_heap_16 : decode cX10_heap 16 = .ok (.iload_n 1, 1) := by decide +kernel
theorem dX10_heap_17 : decode cX10_heap 17 = .ok (.iaload, 1) := by decide +kernel
theorem dX10_heap_18 : decode cX10_heap 18 = .ok (.bipush 12, 2) := by decide +kernel
theorem dX10_heap_20 : decode cX10_heap 20 = .ok (.if_icmp .le 9, 3) := by decide +kernel
theorem dX10_heap_23 : decode cX10_heap 23 = .ok (.aload_n 0, 1) := by decide +kernel
theorem dX10_heap_24 : decode cX10_heap 24 = .ok (.iconst 5, 1) := by decide +kernel
theorem dX10_heap_25 : decode cX10_heap 25 = .ok (.invokevirtual 111, 3) := by decide +kernel
theorem dX10_heap_28 : decode cX10_heap 28 = .ok (.ireturn, 1) := by decide +kernel
theorem dX10_heap_29 : decode cX10_heap 29 = .ok (.iconst 1, 1) := by decide +kernel
theorem dX10_heap_30 : decode cX10_heap 30 = .ok (.istore_n 3, 1) := by decide +kernel
theorem dX10_heap_31 : decode cX10_heap 31 = .ok (.iconst 0, 1) := by decide +kernel
theorem dX10_heap_32 : decode cX10_heap 32 = .ok (.istore 4, 2) := by decide +kernel
theorem dX10_heap_34 : decode cX10_heap 34 = .ok (.iload 4, 2) := by decide +kernel
theorem dX10_heap_36 : decode cX10_heap 36 = .ok (.aload_n 0, 1) := by decide +kernel
theorem dX10_heap_37 : decode cX10_heap 37 = .ok (.getfield 17, 3) := by decide +kernel
theorem dX10_heap_40 : decode cX10_heap 40 = .ok (.iload_n 1, 1) := by decide +kernel
theorem dX10_heap_41 : decode cX10_heap 41 = .ok (.iaload, 1) := by decide +kernel
theorem dX10_heap_42 : decode cX10_heap 42 = .ok (.if_icmp .ge 32, 3) := by decide +kernel
theorem dX10_heap_45 : decode cX10_heap 45 = .ok (.iload_n 3, 1) := by decide +kernel
theorem dX10_heap_46 : decode cX10_heap 46 = .ok (.ifCond .eq 20, 3) := by decide +kernel
theorem dX10_heap_49 : decode cX10_heap 49 = .ok (.aload_n 0, 1) := by decide +kernel
theorem dX10_heap_50 : decode cX10_heap 50 = .ok (.iload_n 1, 1) := by decide +kernel
theorem dX10_heap_51 : decode cX10_heap 51 = .ok (.iload 4, 2) := by decide +kernel
theorem dX10_heap_53 : decode cX10_heap 53 = .ok (.invokevirtual 121, 3) := by decide +kernel
theorem dX10_heap_56 : decode cX10_heap 56 = .ok (.invokestatic 175, 3) := by decide +kernel
theorem dX10_heap_59 : decode cX10_heap 59 = .ok (.ifCond .eq 7, 3) := by decide +kernel
theorem dX10_heap_62 : decode cX10_heap 62 = .ok (.iconst 1, 1) := by decide +kernel
theorem dX10_heap_63 : decode cX10_heap 63 = .ok (.goto 4, 3) := by decide +kernel
theorem dX10_heap_66 : decode cX10_heap 66 = .ok (.iconst 0, 1) := by decide +kernel
theorem dX10_heap_67 : decode cX10_heap 67 = .ok (.istore_n 3, 1) := by decide +kernel
theorem dX10_heap_68 : decode cX10_heap 68 = .ok (.iinc 4 1, 3) := by decide +kernel
theorem dX10_heap_71 : decode cX10_heap 71 = .ok (.goto (-37), 3) := by decide +kernel
theorem dX10_heap_74 : decode cX10_heap 74 = .ok (.iload_n 3, 1) := by decide +kernel
theorem dX10_heap_75 : decode cX10_heap 75 = .ok (.ifCond .ne 9, 3) := by decide +kernel
theorem dX10_heap_78 : decode cX10_heap 78 = .ok (.aload_n 0, 1) := by decide +kernel
theorem dX10_heap_79 : decode cX10_heap 79 = .ok (.iconst 3, 1) := by decide +kernel
theorem dX10_heap_80 : decode cX10_heap 80 = .ok (.invokevirtual 111, 3) := by decide +kernel
theorem dX10_heap_83 : decode cX10_heap 83 = .ok (.ireturn, 1) := by decide +kernel
theorem dX10_heap_84 : decode cX10_heap 84 = .ok (.aload_n 0, 1) := by decide +kernel
theorem dX10_heap_85 : decode cX10_heap 85 = .ok (.aload_n 0, 1) := by decide +kernel
theorem dX10_heap_86 : decode cX10_heap 86 = .ok (.getfield 17, 3) := by decide +kernel
theorem dX10_heap_89 : decode cX10_heap 89 = .ok (.iload_n 1, 1) := by decide +kernel
theorem dX10_heap_90 : decode cX10_heap 90 = .ok (.iaload, 1) := by decide +kernel
theorem dX10_heap_91 : decode cX10_heap 91 = .ok (.putfield 178, 3) := by decide +kernel
theorem dX10_heap_94 : decode cX10_heap 94 = .ok (.iconst 0, 1) := by decide +kernel
theorem dX10_heap_95 : decode cX10_heap 95 = .ok (.istore 4, 2) := by decide +kernel
theorem dX10_heap_97 : decode cX10_heap 97 = .ok (.iload 4, 2) := by decide +kernel
theorem dX10_heap_99 : decode cX10_heap 99 = .ok (.aload_n 0, 1) := by decide +kernel
theorem dX10_heap_100 : decode cX10_heap 100 = .ok (.getfield 178, 3) := by decide +kernel
theorem dX10_heap_103 : decode cX10_heap 103 = .ok (.if_icmp .ge 23, 3) := by decide +kernel
theorem dX10_heap_106 : decode cX10_heap 106 = .ok (.aload_n 0, 1) := by decide +kernel
theorem dX10_heap_107 : decode cX10_heap 107 = .ok (.getfield 59, 3) := by decide +kernel
theorem dX10_heap_110 : decode cX10_heap 110 = .ok (.iload 4, 2) := by decide +kernel
theorem dX10_heap_112 : decode cX10_heap 112 = .ok (.aload_n 0, 1) := by decide +kernel
theorem dX10_heap_113 : decode cX10_heap 113 = .ok (.iload_n 1, 1) := by decide +kernel
theorem dX10_heap_114 : decode cX10_heap 114 = .ok (.iload 4, 2) := by decide +kernel
theorem dX10_heap_116 : decode cX10_heap 116 = .ok (.invokevirtual 121, 3) := by decide +kernel
theorem dX10_heap_119 : decode cX10_heap 119 = .ok (.iastore, 1) := by decide +kernel
theorem dX10_heap_120 : decode cX10_heap 120 = .ok (.iinc 4 1, 3) := by decide +kernel
theorem dX10_heap_123 : decode cX10_heap 123 = .ok (.goto (-26), 3) := by decide +kernel
theorem dX10_heap_126 : decode cX10_heap 126 = .ok (.aload_n 0, 1) := by decide +kernel
theorem dX10_heap_127 : decode cX10_heap 127 = .ok (.getfield 178, 3) := by decide +kernel
theorem dX10_heap_130 : decode cX10_heap 130 = .ok (.ireturn, 1) := by decide +kernel
theorem dX10_isCell_0 : decode cX10_isCell 0 = .ok (.iload_n 0, 1) := by decide +kernel
theorem dX10_isCell_1 : decode cX10_isCell 1 = .ok (.iconst 0, 1) := by decide +kernel
theorem dX10_isCell_2 : decode cX10_isCell 2 = .ok (.bipush 11, 2) := by decide +kernel
theorem dX10_isCell_4 : decode cX10_isCell 4 = .ok (.invokestatic 103, 3) := by decide +kernel
theorem dX10_isCell_7 : decode cX10_isCell 7 = .ok (.ireturn, 1) := by decide +kernel
theorem dX10_askedCell_0 : decode cX10_askedCell 0 = .ok (.iload_n 1, 1) := by decide +kernel
theorem dX10_askedCell_1 : decode cX10_askedCell 1 = .ok (.invokestatic 181, 3) := by decide +kernel
theorem dX10_askedCell_4 : decode cX10_askedCell 4 = .ok (.ifCond .ne 7, 3) := by decide +kernel
theorem dX10_askedCell_7 : decode cX10_askedCell 7 = .ok (.iconst (-1), 1) := by decide +kernel
theorem dX10_askedCell_8 : decode cX10_askedCell 8 = .ok (.goto 21, 3) := by decide +kernel
theorem dX10_askedCell_11 : decode cX10_askedCell 11 = .ok (.aload_n 0, 1) := by decide +kernel
theorem dX10_askedCell_12 : decode cX10_askedCell 12 = .ok (.getfield 41, 3) := by decide +kernel
theorem dX10_askedCell_15 : decode cX10_askedCell 15 = .ok (.iload_n 1, 1) := by decide +kernel
theorem dX10_askedCell_16 : decode cX10_askedCell 16 = .ok (.iaload, 1) := by decide +kernel
theorem dX10_askedCell_17 : decode cX10_askedCell 17 = .ok (.ifCond .ge 11, 3) := by decide +kernel
theorem dX10_askedCell_20 : decode cX10_askedCell 20 = .ok (.aload_n 0, 1) := by decide +kernel
theorem dX10_askedCell_21 : decode cX10_askedCell 21 = .ok (.iconst 1, 1) := by decide +kernel
theorem dX10_askedCell_22 : decode cX10_askedCell 22 = .ok (.invokevirtual 111, 3) := by decide +kernel
theorem dX10_askedCell_25 : decode cX10_askedCell 25 = .ok (.goto 4, 3) := by decide +kernel
theorem dX10_askedCell_28 : decode cX10_askedCell 28 = .ok (.iconst 0, 1) := by decide +kernel
theorem dX10_askedCell_29 : decode cX10_askedCell 29 = .ok (.ireturn, 1) := by decide +kernel
theorem dX10_read_0 : decode cX10_read 0 = .ok (.iload_n 2, 1) := by decide +kernel
theorem dX10_read_1 : decode cX10_read 1 = .ok (.invokestatic 175, 3) := by decide +kernel
theorem dX10_read_4 : decode cX10_read 4 = .ok (.ifCond .ne 5, 3) := by decide +kernel
theorem dX10_read_7 : decode cX10_read 7 = .ok (.iconst (-1), 1) := by decide +kernel
theorem dX10_read_8 : decode cX10_read 8 = .ok (.ireturn, 1) := by decide +kernel
theorem dX10_read_9 : decode cX10_read 9 = .ok (.aload_n 0, 1) := by decide +kernel
theorem dX10_read_10 : decode cX10_read 10 = .ok (.iload_n 1, 1) := by decide +kernel
theorem dX10_read_11 : decode cX10_read 11 = .ok (.invokevirtual 184, 3) := by decide +kernel
theorem dX10_read_14 : decode cX10_read 14 = .ok (.istore_n 3, 1) := by decide +kernel
theorem dX10_read_15 : decode cX10_read 15 = .ok (.iload_n 3, 1) := by decide +kernel
theorem dX10_read_16 : decode cX10_read 16 = .ok (.ifCond .ge 5, 3) := by decide +kernel
theorem dX10_read_19 : decode cX10_read 19 = .ok (.iload_n 3, 1) := by decide +kernel
theorem dX10_read_20 : decode cX10_read 20 = .ok (.ireturn, 1) := by decide +kernel
theorem dX10_read_21 : decode cX10_read 21 = .ok (.aload_n 0, 1) := by decide +kernel
theorem dX10_read_22 : decode cX10_read 22 = .ok (.getfield 41, 3) := by decide +kernel
theorem dX10_read_25 : decode cX10_read 25 = .ok (.iload_n 1, 1) := by decide +kernel
theorem dX10_read_26 : decode cX10_read 26 = .ok (.iaload, 1) := by decide +kernel
theorem dX10_read_27 : decode cX10_read 27 = .ok (.istore 4, 2) := by decide +kernel
theorem dX10_read_29 : decode cX10_read 29 = .ok (.aload_n 0, 1) := by decide +kernel
theorem dX10_read_30 : decode cX10_read 30 = .ok (.getfield 41, 3) := by decide +kernel
theorem dX10_read_33 : decode cX10_read 33 = .ok (.iload_n 1, 1) := by decide +kernel
theorem dX10_read_34 : decode cX10_read 34 = .ok (.iconst 0, 1) := by decide +kernel
theorem dX10_read_35 : decode cX10_read 35 = .ok (.iastore, 1) := by decide +kernel
theorem dX10_read_36 : decode cX10_read 36 = .ok (.aload_n 0, 1) := by decide +kernel
theorem dX10_read_37 : decode cX10_read 37 = .ok (.getfield 44, 3) := by decide +kernel
theorem dX10_read_40 : decode cX10_read 40 = .ok (.iload_n 1, 1) := by decide +kernel
theorem dX10_read_41 : decode cX10_read 41 = .ok (.iload_n 2, 1) := by decide +kernel
theorem dX10_read_42 : decode cX10_read 42 = .ok (.iastore, 1) := by decide +kernel
theorem dX10_read_43 : decode cX10_read 43 = .ok (.aload_n 0, 1) := by decide +kernel
theorem dX10_read_44 : decode cX10_read 44 = .ok (.getfield 47, 3) := by decide +kernel
theorem dX10_read_47 : decode cX10_read 47 = .ok (.iload_n 1, 1) := by decide +kernel
theorem dX10_read_48 : decode cX10_read 48 = .ok (.iload_n 2, 1) := by decide +kernel
theorem dX10_read_49 : decode cX10_read 49 = .ok (.iastore, 1) := by decide +kernel
theorem dX10_read_50 : decode cX10_read 50 = .ok (.iload 4, 2) := by decide +kernel
theorem dX10_read_52 : decode cX10_read 52 = .ok (.ireturn, 1) := by decide +kernel
theorem dX10_kind_0 : decode cX10_kind 0 = .ok (.aload_n 0, 1) := by decide +kernel
theorem dX10_kind_1 : decode cX10_kind 1 = .ok (.iload_n 1, 1) := by decide +kernel
theorem dX10_kind_2 : decode cX10_kind 2 = .ok (.invokevirtual 184, 3) := by decide +kernel
theorem dX10_kind_5 : decode cX10_kind 5 = .ok (.istore_n 2, 1) := by decide +kernel
theorem dX10_kind_6 : decode cX10_kind 6 = .ok (.iload_n 2, 1) := by decide +kernel
theorem dX10_kind_7 : decode cX10_kind 7 = .ok (.ifCond .ge 7, 3) := by decide +kernel
theorem dX10_kind_10 : decode cX10_kind 10 = .ok (.iload_n 2, 1) := by decide +kernel
theorem dX10_kind_11 : decode cX10_kind 11 = .ok (.goto 9, 3) := by decide +kernel
theorem dX10_kind_14 : decode cX10_kind 14 = .ok (.aload_n 0, 1) := by decide +kernel
theorem dX10_kind_15 : decode cX10_kind 15 = .ok (.getfield 41, 3) := by decide +kernel
theorem dX10_kind_18 : decode cX10_kind 18 = .ok (.iload_n 1, 1) := by decide +kernel
theorem dX10_kind_19 : decode cX10_kind 19 = .ok (.iaload, 1) := by decide +kernel
theorem dX10_kind_20 : decode cX10_kind 20 = .ok (.ireturn, 1) := by decide +kernel
theorem dX10_inHeap_0 : decode cX10_inHeap 0 = .ok (.iconst 0, 1) := by decide +kernel
theorem dX10_inHeap_1 : decode cX10_inHeap 1 = .ok (.istore_n 2, 1) := by decide +kernel
theorem dX10_inHeap_2 : decode cX10_inHeap 2 = .ok (.iconst 0, 1) := by decide +kernel
theorem dX10_inHeap_3 : decode cX10_inHeap 3 = .ok (.istore_n 3, 1) := by decide +kernel
theorem dX10_inHeap_4 : decode cX10_inHeap 4 = .ok (.iload_n 3, 1) := by decide +kernel
theorem dX10_inHeap_5 : decode cX10_inHeap 5 = .ok (.aload_n 0, 1) := by decide +kernel
theorem dX10_inHeap_6 : decode cX10_inHeap 6 = .ok (.getfield 178, 3) := by decide +kernel
theorem dX10_inHeap_9 : decode cX10_inHeap 9 = .ok (.if_icmp .ge 27, 3) := by decide +kernel
theorem dX10_inHeap_12 : decode cX10_inHeap 12 = .ok (.iload_n 2, 1) := by decide +kernel
theorem dX10_inHeap_13 : decode cX10_inHeap 13 = .ok (.aload_n 0, 1) := by decide +kernel
theorem dX10_inHeap_14 : decode cX10_inHeap 14 = .ok (.getfield 59, 3) := by decide +kernel
theorem dX10_inHeap_17 : decode cX10_inHeap 17 = .ok (.iload_n 3, 1) := by decide +kernel
theorem dX10_inHeap_18 : decode cX10_inHeap 18 = .ok (.iaload, 1) := by decide +kernel
theorem dX10_inHeap_19 : decode cX10_inHeap 19 = .ok (.iload_n 1, 1) := by decide +kernel
theorem dX10_inHeap_20 : decode cX10_inHeap 20 = .ok (.if_icmp .ne 7, 3) := by decide +kernel
theorem dX10_inHeap_23 : decode cX10_inHeap 23 = .ok (.iconst 1, 1) := by decide +kernel
theorem dX10_inHeap_24 : decode cX10_inHeap 24 = .ok (.goto 4, 3) := by decide +kernel
theorem dX10_inHeap_27 : decode cX10_inHeap 27 = .ok (.iconst 0, 1) := by decide +kernel
theorem dX10_inHeap_28 : decode cX10_inHeap 28 = .ok (.iadd, 1) := by decide +kernel
theorem dX10_inHeap_29 : decode cX10_inHeap 29 = .ok (.istore_n 2, 1) := by decide +kernel
theorem dX10_inHeap_30 : decode cX10_inHeap 30 = .ok (.iinc 3 1, 3) := by decide +kernel
theorem dX10_inHeap_33 : decode cX10_inHeap 33 = .ok (.goto (-29), 3) := by decide +kernel
theorem dX10_inHeap_36 : decode cX10_inHeap 36 = .ok (.iload_n 2, 1) := by decide +kernel
theorem dX10_inHeap_37 : decode cX10_inHeap 37 = .ok (.ireturn, 1) := by decide +kernel
theorem dX10_isBy_0 : decode cX10_isBy 0 = .ok (.iload_n 0, 1) := by decide +kernel
theorem dX10_isBy_1 : decode cX10_isBy 1 = .ok (.bipush 63, 2) := by decide +kernel
theorem dX10_isBy_3 : decode cX10_isBy 3 = .ok (.if_icmp .eq 28, 3) := by decide +kernel
theorem dX10_isBy_6 : decode cX10_isBy 6 = .ok (.iload_n 0, 1) := by decide +kernel
theorem dX10_isBy_7 : decode cX10_isBy 7 = .ok (.iload_n 1, 1) := by decide +kernel
theorem dX10_isBy_8 : decode cX10_isBy 8 = .ok (.bipush 48, 2) := by decide +kernel
theorem dX10_isBy_10 : decode cX10_isBy 10 = .ok (.iadd, 1) := by decide +kernel
theorem dX10_isBy_11 : decode cX10_isBy 11 = .ok (.if_icmp .eq 20, 3) := by decide +kernel
theorem dX10_isBy_14 : decode cX10_isBy 14 = .ok (.iload_n 0, 1) := by decide +kernel
theorem dX10_isBy_15 : decode cX10_isBy 15 = .ok (.bipush 120, 2) := by decide +kernel
theorem dX10_isBy_17 : decode cX10_isBy 17 = .ok (.if_icmp .ne 18, 3) := by decide +kernel
theorem dX10_isBy_20 : decode cX10_isBy 20 = .ok (.iload_n 1, 1) := by decide +kernel
theorem dX10_isBy_21 : decode cX10_isBy 21 = .ok (.iconst 3, 1) := by decide +kernel
theorem dX10_isBy_22 : decode cX10_isBy 22 = .ok (.if_icmp .eq 9, 3) := by decide +kernel
theorem dX10_isBy_25 : decode cX10_isBy 25 = .ok (.iload_n 1, 1) := by decide +kernel
theorem dX10_isBy_26 : decode cX10_isBy 26 = .ok (.bipush 8, 2) := by decide +kernel
theorem dX10_isBy_28 : decode cX10_isBy 28 = .ok (.if_icmp .ne 7, 3) := by decide +kernel
theorem dX10_isBy_31 : decode cX10_isBy 31 = .ok (.iconst 1, 1) := by decide +kernel
theorem dX10_isBy_32 : decode cX10_isBy 32 = .ok (.goto 4, 3) := by decide +kernel
theorem dX10_isBy_35 : decode cX10_isBy 35 = .ok (.iconst 0, 1) := by decide +kernel
theorem dX10_isBy_36 : decode cX10_isBy 36 = .ok (.ireturn, 1) := by decide +kernel
theorem dX10_isThere_0 : decode cX10_isThere 0 = .ok (.aload_n 0, 1) := by decide +kernel
theorem dX10_isThere_1 : decode cX10_isThere 1 = .ok (.getfield 41, 3) := by decide +kernel
theorem dX10_isThere_4 : decode cX10_isThere 4 = .ok (.iload_n 1, 1) := by decide +kernel
theorem dX10_isThere_5 : decode cX10_isThere 5 = .ok (.iaload, 1) := by decide +kernel
theorem dX10_isThere_6 : decode cX10_isThere 6 = .ok (.ifCond .lt 7, 3) := by decide +kernel
theorem dX10_isThere_9 : decode cX10_isThere 9 = .ok (.iconst 1, 1) := by decide +kernel
theorem dX10_isThere_10 : decode cX10_isThere 10 = .ok (.goto 4, 3) := by decide +kernel
theorem dX10_isThere_13 : decode cX10_isThere 13 = .ok (.iconst 0, 1) := by decide +kernel
theorem dX10_isThere_14 : decode cX10_isThere 14 = .ok (.ireturn, 1) := by decide +kernel
theorem dX10_isFirst_0 : decode cX10_isFirst 0 = .ok (.aload_n 0, 1) := by decide +kernel
theorem dX10_isFirst_1 : decode cX10_isFirst 1 = .ok (.getfield 41, 3) := by decide +kernel
theorem dX10_isFirst_4 : decode cX10_isFirst 4 = .ok (.iload_n 1, 1) := by decide +kernel
theorem dX10_isFirst_5 : decode cX10_isFirst 5 = .ok (.iaload, 1) := by decide +kernel
theorem dX10_isFirst_6 : decode cX10_isFirst 6 = .ok (.tableswitch 186 0 5 #[38, 84, 154, 140, 186, 55], 38) := by decide +kernel
theorem dX10_isFirst_44 : decode cX10_isFirst 44 = .ok (.iload_n 2, 1) := by decide +kernel
theorem dX10_isFirst_45 : decode cX10_isFirst 45 = .ok (.aload_n 0, 1) := by decide +kernel
theorem dX10_isFirst_46 : decode cX10_isFirst 46 = .ok (.getfield 44, 3) := by decide +kernel
theorem dX10_isFirst_49 : decode cX10_isFirst 49 = .ok (.iload_n 1, 1) := by decide +kernel
theorem dX10_isFirst_50 : decode cX10_isFirst 50 = .ok (.iaload, 1) := by decide +kernel
theorem dX10_isFirst_51 : decode cX10_isFirst 51 = .ok (.aload_n 0, 1) := by decide +kernel
theorem dX10_isFirst_52 : decode cX10_isFirst 52 = .ok (.getfield 47, 3) := by decide +kernel
theorem dX10_isFirst_55 : decode cX10_isFirst 55 = .ok (.iload_n 1, 1) := by decide +kernel
theorem dX10_isFirst_56 : decode cX10_isFirst 56 = .ok (.iaload, 1) := by decide +kernel
theorem dX10_isFirst_57 : decode cX10_isFirst 57 = .ok (.invokestatic 103, 3) := by decide +kernel
theorem dX10_isFirst_60 : decode cX10_isFirst 60 = .ok (.ireturn, 1) := by decide +kernel
theorem dX10_isFirst_61 : decode cX10_isFirst 61 = .ok (.iload_n 2, 1) := by decide +kernel
theorem dX10_isFirst_62 : decode cX10_isFirst 62 = .ok (.ifCond .eq 22, 3) := by decide +kernel
theorem dX10_isFirst_65 : decode cX10_isFirst 65 = .ok (.iload_n 2, 1) := by decide +kernel
theorem dX10_isFirst_66 : decode cX10_isFirst 66 = .ok (.aload_n 0, 1) := by decide +kernel
theorem dX10_isFirst_67 : decode cX10_isFirst 67 = .ok (.getfield 44, 3) := by decide +kernel
theorem dX10_isFirst_70 : decode cX10_isFirst 70 = .ok (.iload_n 1, 1) := by decide +kernel
theorem dX10_isFirst_71 : decode cX10_isFirst 71 = .ok (.iaload, 1) := by decide +kernel
theorem dX10_isFirst_72 : decode cX10_isFirst 72 = .ok (.aload_n 0, 1) := by decide +kernel
theorem dX10_isFirst_73 : decode cX10_isFirst 73 = .ok (.getfield 47, 3) := by decide +kernel
theorem dX10_isFirst_76 : decode cX10_isFirst 76 = .ok (.iload_n 1, 1) := by decide +kernel
theorem dX10_isFirst_77 : decode cX10_isFirst 77 = .ok (.iaload, 1) := by decide +kernel
theorem dX10_isFirst_78 : decode cX10_isFirst 78 = .ok (.invokestatic 103, 3) := by decide +kernel
theorem dX10_isFirst_81 : decode cX10_isFirst 81 = .ok (.ifCond .eq 7, 3) := by decide +kernel
theorem dX10_isFirst_84 : decode cX10_isFirst 84 = .ok (.iconst 1, 1) := by decide +kernel
theorem dX10_isFirst_85 : decode cX10_isFirst 85 = .ok (.goto 4, 3) := by decide +kernel
theorem dX10_isFirst_88 : decode cX10_isFirst 88 = .ok (.iconst 0, 1) := by decide +kernel
theorem dX10_isFirst_89 : decode cX10_isFirst 89 = .ok (.ireturn, 1) := by decide +kernel
theorem dX10_isFirst_90 : decode cX10_isFirst 90 = .ok (.aload_n 0, 1) := by decide +kernel
theorem dX10_isFirst_91 : decode cX10_isFirst 91 = .ok (.getfield 44, 3) := by decide +kernel
theorem dX10_isFirst_94 : decode cX10_isFirst 94 = .ok (.iload_n 1, 1) := by decide +kernel
theorem dX10_isFirst_95 : decode cX10_isFirst 95 = .ok (.iaload, 1) := by decide +kernel
theorem dX10_isFirst_96 : decode cX10_isFirst 96 = .ok (.ifCond .ge 12, 3) := by decide +kernel
theorem dX10_isFirst_99 : decode cX10_isFirst 99 = .ok (.iload_n 2, 1) := by decide +kernel
theorem dX10_isFirst_100 : decode cX10_isFirst 100 = .ok (.bipush 10, 2) := by decide +kernel
theorem dX10_isFirst_102 : decode cX10_isFirst 102 = .ok (.if_icmp .ge 42, 3) := by decide +kernel
theorem dX10_isFirst_105 : decode cX10_isFirst 105 = .ok (.goto 19, 3) := by decide +kernel
theorem dX10_isFirst_108 : decode cX10_isFirst 108 = .ok (.aload_n 0, 1) := by decide +kernel
theorem dX10_isFirst_109 : decode cX10_isFirst 109 = .ok (.getfield 44, 3) := by decide +kernel
theorem dX10_isFirst_112 : decode cX10_isFirst 112 = .ok (.iload_n 1, 1) := by decide +kernel
theorem dX10_isFirst_113 : decode cX10_isFirst 113 = .ok (.iaload, 1) := by decide +kernel
theorem dX10_isFirst_114 : decode cX10_isFirst 114 = .ok (.iload_n 2, 1) := by decide +kernel
theorem dX10_isFirst_115 : decode cX10_isFirst 115 = .ok (.bipush 10, 2) := by decide +kernel
theorem dX10_isFirst_117 : decode cX10_isFirst 117 = .ok (.idiv, 1) := by decide +kernel
theorem dX10_isFirst_118 : decode cX10_isFirst 118 = .ok (.invokestatic 187, 3) := by decide +kernel
theorem dX10_isFirst_121 : decode cX10_isFirst 121 = .ok (.ifCond .eq 23, 3) := by decide +kernel
theorem dX10_isFirst_124 : decode cX10_isFirst 124 = .ok (.aload_n 0, 1) := by decide +kernel
theorem dX10_isFirst_125 : decode cX10_isFirst 125 = .ok (.getfield 47, 3) := by decide +kernel
theorem dX10_isFirst_128 : decode cX10_isFirst 128 = .ok (.iload_n 1, 1) := by decide +kernel
theorem dX10_isFirst_129 : decode cX10_isFirst 129 = .ok (.iaload, 1) := by decide +kernel
theorem dX10_isFirst_130 : decode cX10_isFirst 130 = .ok (.iload_n 2, 1) := by decide +kernel
theorem dX10_isFirst_131 : decode cX10_isFirst 131 = .ok (.bipush 10, 2) := by decide +kernel
theorem dX10_isFirst_133 : decode cX10_isFirst 133 = .ok (.irem, 1) := by decide +kernel
theorem dX10_isFirst_134 : decode cX10_isFirst 134 = .ok (.invokestatic 187, 3) := by decide +kernel
theorem dX10_isFirst_137 : decode cX10_isFirst 137 = .ok (.ifCond .eq 7, 3) := by decide +kernel
theorem dX10_isFirst_140 : decode cX10_isFirst 140 = .ok (.iconst 1, 1) := by decide +kernel
theorem dX10_isFirst_141 : decode cX10_isFirst 141 = .ok (.goto 4, 3) := by decide +kernel
theorem dX10_isFirst_144 : decode cX10_isFirst 144 = .ok (.iconst 0, 1) := by decide +kernel
theorem dX10_isFirst_145 : decode cX10_isFirst 145 = .ok (.ireturn, 1) := by decide +kernel
theorem dX10_isFirst_146 : decode cX10_isFirst 146 = .ok (.aload_n 0, 1) := by decide +kernel
theorem dX10_isFirst_147 : decode cX10_isFirst 147 = .ok (.iload_n 2, 1) := by decide +kernel
theorem dX10_isFirst_148 : decode cX10_isFirst 148 = .ok (.invokevirtual 190, 3) := by decide +kernel
theorem dX10_isFirst_151 : decode cX10_isFirst 151 = .ok (.ifCond .le 7, 3) := by decide +kernel
theorem dX10_isFirst_154 : decode cX10_isFirst 154 = .ok (.iconst 1, 1) := by decide +kernel
theorem dX10_isFirst_155 : decode cX10_isFirst 155 = .ok (.goto 4, 3) := by decide +kernel
theorem dX10_isFirst_158 : decode cX10_isFirst 158 = .ok (.iconst 0, 1) := by decide +kernel
theorem dX10_isFirst_159 : decode cX10_isFirst 159 = .ok (.ireturn, 1) := by decide +kernel
theorem dX10_isFirst_160 : decode cX10_isFirst 160 = .ok (.aload_n 0, 1) := by decide +kernel
theorem dX10_isFirst_161 : decode cX10_isFirst 161 = .ok (.aload_n 0, 1) := by decide +kernel
theorem dX10_isFirst_162 : decode cX10_isFirst 162 = .ok (.getfield 44, 3) := by decide +kernel
theorem dX10_isFirst_165 : decode cX10_isFirst 165 = .ok (.iload_n 1, 1) := by decide +kernel
theorem dX10_isFirst_166 : decode cX10_isFirst 166 = .ok (.iaload, 1) := by decide +kernel
theorem dX10_isFirst_167 : decode cX10_isFirst 167 = .ok (.invokevirtual 193, 3) := by decide +kernel
theorem dX10_isFirst_170 : decode cX10_isFirst 170 = .ok (.ifCond .eq 20, 3) := by decide +kernel
theorem dX10_isFirst_173 : decode cX10_isFirst 173 = .ok (.aload_n 0, 1) := by decide +kernel
theorem dX10_isFirst_174 : decode cX10_isFirst 174 = .ok (.aload_n 0, 1) := by decide +kernel
theorem dX10_isFirst_175 : decode cX10_isFirst 175 = .ok (.getfield 47, 3) := by decide +kernel
theorem dX10_isFirst_178 : decode cX10_isFirst 178 = .ok (.iload_n 1, 1) := by decide +kernel
theorem dX10_isFirst_179 : decode cX10_isFirst 179 = .ok (.iaload, 1) := by decide +kernel
theorem dX10_isFirst_180 : decode cX10_isFirst 180 = .ok (.invokevirtual 193, 3) := by decide +kernel
theorem dX10_isFirst_183 : decode cX10_isFirst 183 = .ok (.ifCond .eq 7, 3) := by decide +kernel
theorem dX10_isFirst_186 : decode cX10_isFirst 186 = .ok (.iconst 1, 1) := by decide +kernel
theorem dX10_isFirst_187 : decode cX10_isFirst 187 = .ok (.goto 4, 3) := by decide +kernel
theorem dX10_isFirst_190 : decode cX10_isFirst 190 = .ok (.iconst 0, 1) := by decide +kernel
theorem dX10_isFirst_191 : decode cX10_isFirst 191 = .ok (.ireturn, 1) := by decide +kernel
theorem dX10_isFirst_192 : decode cX10_isFirst 192 = .ok (.aload_n 0, 1) := by decide +kernel
theorem dX10_isFirst_193 : decode cX10_isFirst 193 = .ok (.aload_n 0, 1) := by decide +kernel
theorem dX10_isFirst_194 : decode cX10_isFirst 194 = .ok (.getfield 44, 3) := by decide +kernel
theorem dX10_isFirst_197 : decode cX10_isFirst 197 = .ok (.iload_n 1, 1) := by decide +kernel
theorem dX10_isFirst_198 : decode cX10_isFirst 198 = .ok (.iaload, 1) := by decide +kernel
theorem dX10_isFirst_199 : decode cX10_isFirst 199 = .ok (.invokevirtual 193, 3) := by decide +kernel
theorem dX10_isFirst_202 : decode cX10_isFirst 202 = .ok (.ireturn, 1) := by decide +kernel
theorem dX10_firstMany_0 : decode cX10_firstMany 0 = .ok (.iconst 0, 1) := by decide +kernel
theorem dX10_firstMany_1 : decode cX10_firstMany 1 = .ok (.istore_n 2, 1) := by decide +kernel
theorem dX10_firstMany_2 : decode cX10_firstMany 2 = .ok (.iconst 0, 1) := by decide +kernel
theorem dX10_firstMany_3 : decode cX10_firstMany 3 = .ok (.istore_n 3, 1) := by decide +kernel
theorem dX10_firstMany_4 : decode cX10_firstMany 4 = .ok (.iload_n 3, 1) := by decide +kernel
theorem dX10_firstMany_5 : decode cX10_firstMany 5 = .ok (.bipush 100, 2) := by decide +kernel
theorem dX10_firstMany_7 : decode cX10_firstMany 7 = .ok (.if_icmp .ge 26, 3) := by decide +kernel
theorem dX10_firstMany_10 : decode cX10_firstMany 10 = .ok (.iload_n 2, 1) := by decide +kernel
theorem dX10_firstMany_11 : decode cX10_firstMany 11 = .ok (.aload_n 0, 1) := by decide +kernel
theorem dX10_firstMany_12 : decode cX10_firstMany 12 = .ok (.iload_n 1, 1) := by decide +kernel
theorem dX10_firstMany_13 : decode cX10_firstMany 13 = .ok (.iload_n 3, 1) := by decide +kernel
theorem dX10_firstMany_14 : decode cX10_firstMany 14 = .ok (.invokevirtual 196, 3) := by decide +kernel
theorem dX10_firstMany_17 : decode cX10_firstMany 17 = .ok (.ifCond .eq 7, 3) := by decide +kernel
theorem dX10_firstMany_20 : decode cX10_firstMany 20 = .ok (.iconst 1, 1) := by decide +kernel
theorem dX10_firstMany_21 : decode cX10_firstMany 21 = .ok (.goto 4, 3) := by decide +kernel
theorem dX10_firstMany_24 : decode cX10_firstMany 24 = .ok (.iconst 0, 1) := by decide +kernel
theorem dX10_firstMany_25 : decode cX10_firstMany 25 = .ok (.iadd, 1) := by decide +kernel
theorem dX10_firstMany_26 : decode cX10_firstMany 26 = .ok (.istore_n 2, 1) := by decide +kernel
theorem dX10_firstMany_27 : decode cX10_firstMany 27 = .ok (.iinc 3 1, 3) := by decide +kernel
theorem dX10_firstMany_30 : decode cX10_firstMany 30 = .ok (.goto (-26), 3) := by decide +kernel
theorem dX10_firstMany_33 : decode cX10_firstMany 33 = .ok (.iload_n 2, 1) := by decide +kernel
theorem dX10_firstMany_34 : decode cX10_firstMany 34 = .ok (.ireturn, 1) := by decide +kernel
theorem dX10_tells_0 : decode cX10_tells 0 = .ok (.aload_n 0, 1) := by decide +kernel
theorem dX10_tells_1 : decode cX10_tells 1 = .ok (.getfield 41, 3) := by decide +kernel
theorem dX10_tells_4 : decode cX10_tells 4 = .ok (.iload_n 1, 1) := by decide +kernel
theorem dX10_tells_5 : decode cX10_tells 5 = .ok (.iaload, 1) := by decide +kernel
theorem dX10_tells_6 : decode cX10_tells 6 = .ok (.tableswitch 60 1 4 #[30, 36, 30, 53], 30) := by decide +kernel
theorem dX10_tells_36 : decode cX10_tells 36 = .ok (.aload_n 0, 1) := by decide +kernel
theorem dX10_tells_37 : decode cX10_tells 37 = .ok (.iload_n 1, 1) := by decide +kernel
theorem dX10_tells_38 : decode cX10_tells 38 = .ok (.invokevirtual 199, 3) := by decide +kernel
theorem dX10_tells_41 : decode cX10_tells 41 = .ok (.ireturn, 1) := by decide +kernel
theorem dX10_tells_42 : decode cX10_tells 42 = .ok (.bipush 12, 2) := by decide +kernel
theorem dX10_tells_44 : decode cX10_tells 44 = .ok (.aload_n 0, 1) := by decide +kernel
theorem dX10_tells_45 : decode cX10_tells 45 = .ok (.getfield 44, 3) := by decide +kernel
theorem dX10_tells_48 : decode cX10_tells 48 = .ok (.iload_n 1, 1) := by decide +kernel
theorem dX10_tells_49 : decode cX10_tells 49 = .ok (.iaload, 1) := by decide +kernel
theorem dX10_tells_50 : decode cX10_tells 50 = .ok (.imul, 1) := by decide +kernel
theorem dX10_tells_51 : decode cX10_tells 51 = .ok (.aload_n 0, 1) := by decide +kernel
theorem dX10_tells_52 : decode cX10_tells 52 = .ok (.getfield 47, 3) := by decide +kernel
theorem dX10_tells_55 : decode cX10_tells 55 = .ok (.iload_n 1, 1) := by decide +kernel
theorem dX10_tells_56 : decode cX10_tells 56 = .ok (.iaload, 1) := by decide +kernel
theorem dX10_tells_57 : decode cX10_tells 57 = .ok (.iadd, 1) := by decide +kernel
theorem dX10_tells_58 : decode cX10_tells 58 = .ok (.ireturn, 1) := by decide +kernel
theorem dX10_tells_59 : decode cX10_tells 59 = .ok (.aload_n 0, 1) := by decide +kernel
theorem dX10_tells_60 : decode cX10_tells 60 = .ok (.getfield 44, 3) := by decide +kernel
theorem dX10_tells_63 : decode cX10_tells 63 = .ok (.iload_n 1, 1) := by decide +kernel
theorem dX10_tells_64 : decode cX10_tells 64 = .ok (.iaload, 1) := by decide +kernel
theorem dX10_tells_65 : decode cX10_tells 65 = .ok (.ireturn, 1) := by decide +kernel
theorem dX10_tells_66 : decode cX10_tells 66 = .ok (.bipush 100, 2) := by decide +kernel
theorem dX10_tells_68 : decode cX10_tells 68 = .ok (.aload_n 0, 1) := by decide +kernel
theorem dX10_tells_69 : decode cX10_tells 69 = .ok (.getfield 44, 3) := by decide +kernel
theorem dX10_tells_72 : decode cX10_tells 72 = .ok (.iload_n 1, 1) := by decide +kernel
theorem dX10_tells_73 : decode cX10_tells 73 = .ok (.iaload, 1) := by decide +kernel
theorem dX10_tells_74 : decode cX10_tells 74 = .ok (.imul, 1) := by decide +kernel
theorem dX10_tells_75 : decode cX10_tells 75 = .ok (.aload_n 0, 1) := by decide +kernel
theorem dX10_tells_76 : decode cX10_tells 76 = .ok (.getfield 47, 3) := by decide +kernel
theorem dX10_tells_79 : decode cX10_tells 79 = .ok (.iload_n 1, 1) := by decide +kernel
theorem dX10_tells_80 : decode cX10_tells 80 = .ok (.iaload, 1) := by decide +kernel
theorem dX10_tells_81 : decode cX10_tells 81 = .ok (.iadd, 1) := by decide +kernel
theorem dX10_tells_82 : decode cX10_tells 82 = .ok (.ireturn, 1) := by decide +kernel
theorem dX10_mark_0 : decode cX10_mark 0 = .ok (.iload_n 2, 1) := by decide +kernel
theorem dX10_mark_1 : decode cX10_mark 1 = .ok (.iconst 1, 1) := by decide +kernel
theorem dX10_mark_2 : decode cX10_mark 2 = .ok (.iconst 5, 1) := by decide +kernel
theorem dX10_mark_3 : decode cX10_mark 3 = .ok (.invokestatic 103, 3) := by decide +kernel
theorem dX10_mark_6 : decode cX10_mark 6 = .ok (.ifCond .ne 5, 3) := by decide +kernel
theorem dX10_mark_9 : decode cX10_mark 9 = .ok (.iconst (-1), 1) := by decide +kernel
theorem dX10_mark_10 : decode cX10_mark 10 = .ok (.ireturn, 1) := by decide +kernel
theorem dX10_mark_11 : decode cX10_mark 11 = .ok (.aload_n 0, 1) := by decide +kernel
theorem dX10_mark_12 : decode cX10_mark 12 = .ok (.iload_n 1, 1) := by decide +kernel
theorem dX10_mark_13 : decode cX10_mark 13 = .ok (.invokevirtual 184, 3) := by decide +kernel
theorem dX10_mark_16 : decode cX10_mark 16 = .ok (.istore_n 3, 1) := by decide +kernel
theorem dX10_mark_17 : decode cX10_mark 17 = .ok (.iload_n 3, 1) := by decide +kernel
theorem dX10_mark_18 : decode cX10_mark 18 = .ok (.ifCond .ge 7, 3) := by decide +kernel
theorem dX10_mark_21 : decode cX10_mark 21 = .ok (.iload_n 3, 1) := by decide +kernel
theorem dX10_mark_22 : decode cX10_mark 22 = .ok (.goto 26, 3) := by decide +kernel
theorem dX10_mark_25 : decode cX10_mark 25 = .ok (.aload_n 0, 1) := by decide +kernel
theorem dX10_mark_26 : decode cX10_mark 26 = .ok (.getfield 41, 3) := by decide +kernel
theorem dX10_mark_29 : decode cX10_mark 29 = .ok (.iload_n 1, 1) := by decide +kernel
theorem dX10_mark_30 : decode cX10_mark 30 = .ok (.iaload, 1) := by decide +kernel
theorem dX10_mark_31 : decode cX10_mark 31 = .ok (.iload_n 2, 1) := by decide +kernel
theorem dX10_mark_32 : decode cX10_mark 32 = .ok (.if_icmp .eq 11, 3) := by decide +kernel
theorem dX10_mark_35 : decode cX10_mark 35 = .ok (.aload_n 0, 1) := by decide +kernel
theorem dX10_mark_36 : decode cX10_mark 36 = .ok (.iconst 3, 1) := by decide +kernel
theorem dX10_mark_37 : decode cX10_mark 37 = .ok (.invokevirtual 111, 3) := by decide +kernel
theorem dX10_mark_40 : decode cX10_mark 40 = .ok (.goto 8, 3) := by decide +kernel
theorem dX10_mark_43 : decode cX10_mark 43 = .ok (.aload_n 0, 1) := by decide +kernel
theorem dX10_mark_44 : decode cX10_mark 44 = .ok (.iload_n 1, 1) := by decide +kernel
theorem dX10_mark_45 : decode cX10_mark 45 = .ok (.invokevirtual 202, 3) := by decide +kernel
theorem dX10_mark_48 : decode cX10_mark 48 = .ok (.ireturn, 1) := by decide +kernel
theorem dX10_setFirst_0 : decode cX10_setFirst 0 = .ok (.iconst 0, 1) := by decide +kernel
theorem dX10_setFirst_1 : decode cX10_setFirst 1 = .ok (.istore_n 1, 1) := by decide +kernel
theorem dX10_setFirst_2 : decode cX10_setFirst 2 = .ok (.iload_n 1, 1) := by decide +kernel
theorem dX10_setFirst_3 : decode cX10_setFirst 3 = .ok (.bipush 12, 2) := by decide +kernel
theorem dX10_setFirst_5 : decode cX10_setFirst 5 = .ok (.if_icmp .ge 62, 3) := by decide +kernel
theorem dX10_setFirst_8 : decode cX10_setFirst 8 = .ok (.iconst 0, 1) := by decide +kernel
theorem dX10_setFirst_9 : decode cX10_setFirst 9 = .ok (.istore_n 2, 1) := by decide +kernel
theorem dX10_setFirst_10 : decode cX10_setFirst 10 = .ok (.iload_n 2, 1) := by decide +kernel
theorem dX10_setFirst_11 : decode cX10_setFirst 11 = .ok (.bipush 100, 2) := by decide +kernel
theorem dX10_setFirst_13 : decode cX10_setFirst 13 = .ok (.if_icmp .ge 42, 3) := by decide +kernel
theorem dX10_setFirst_16 : decode cX10_setFirst 16 = .ok (.aload_n 0, 1) := by decide +kernel
theorem dX10_setFirst_17 : decode cX10_setFirst 17 = .ok (.getfield 62, 3) := by decide +kernel
theorem dX10_setFirst_20 : decode cX10_setFirst 20 = .ok (.bipush 100, 2) := by decide +kernel
theorem dX10_setFirst_22 : decode cX10_setFirst 22 = .ok (.iload_n 1, 1) := by decide +kernel
theorem dX10_setFirst_23 : decode cX10_setFirst 23 = .ok (.imul, 1) := by decide +kernel
theorem dX10_setFirst_24 : decode cX10_setFirst 24 = .ok (.iload_n 2, 1) := by decide +kernel
theorem dX10_setFirst_25 : decode cX10_setFirst 25 = .ok (.iadd, 1) := by decide +kernel
theorem dX10_setFirst_26 : decode cX10_setFirst 26 = .ok (.aload_n 0, 1) := by decide +kernel
theorem dX10_setFirst_27 : decode cX10_setFirst 27 = .ok (.iload_n 1, 1) := by decide +kernel
theorem dX10_setFirst_28 : decode cX10_setFirst 28 = .ok (.invokevirtual 193, 3) := by decide +kernel
theorem dX10_setFirst_31 : decode cX10_setFirst 31 = .ok (.ifCond .eq 16, 3) := by decide +kernel
theorem dX10_setFirst_34 : decode cX10_setFirst 34 = .ok (.aload_n 0, 1) := by decide +kernel
theorem dX10_setFirst_35 : decode cX10_setFirst 35 = .ok (.iload_n 1, 1) := by decide +kernel
theorem dX10_setFirst_36 : decode cX10_setFirst 36 = .ok (.iload_n 2, 1) := by decide +kernel
theorem dX10_setFirst_37 : decode cX10_setFirst 37 = .ok (.invokevirtual 196, 3) := by decide +kernel
theorem dX10_setFirst_40 : decode cX10_setFirst 40 = .ok (.ifCond .eq 7, 3) := by decide +kernel
theorem dX10_setFirst_43 : decode cX10_setFirst 43 = .ok (.iconst 1, 1) := by decide +kernel
theorem dX10_setFirst_44 : decode cX10_setFirst 44 = .ok (.goto 4, 3) := by decide +kernel
theorem dX10_setFirst_47 : decode cX10_setFirst 47 = .ok (.iconst 0, 1) := by decide +kernel
theorem dX10_setFirst_48 : decode cX10_setFirst 48 = .ok (.bastore, 1) := by decide +kernel
theorem dX10_setFirst_49 : decode cX10_setFirst 49 = .ok (.iinc 2 1, 3) := by decide +kernel
theorem dX10_setFirst_52 : decode cX10_setFirst 52 = .ok (.goto (-42), 3) := by decide +kernel
theorem dX10_setFirst_55 : decode cX10_setFirst 55 = .ok (.aload_n 0, 1) := by decide +kernel
theorem dX10_setFirst_56 : decode cX10_setFirst 56 = .ok (.iload_n 1, 1) := by decide +kernel
theorem dX10_setFirst_57 : decode cX10_setFirst 57 = .ok (.invokevirtual 205, 3) := by decide +kernel
theorem dX10_setFirst_60 : decode cX10_setFirst 60 = .ok (.pop, 1) := by decide +kernel
theorem dX10_setFirst_61 : decode cX10_setFirst 61 = .ok (.iinc 1 1, 3) := by decide +kernel
theorem dX10_setFirst_64 : decode cX10_setFirst 64 = .ok (.goto (-62), 3) := by decide +kernel
theorem dX10_setFirst_67 : decode cX10_setFirst 67 = .ok (.return_, 1) := by decide +kernel
theorem dX10_setEnds_0 : decode cX10_setEnds 0 = .ok (.bipush 100, 2) := by decide +kernel
theorem dX10_setEnds_2 : decode cX10_setEnds 2 = .ok (.istore_n 2, 1) := by decide +kernel
theorem dX10_setEnds_3 : decode cX10_setEnds 3 = .ok (.bipush (-9), 2) := by decide +kernel
theorem dX10_setEnds_5 : decode cX10_setEnds 5 = .ok (.istore_n 3, 1) := by decide +kernel
theorem dX10_setEnds_6 : decode cX10_setEnds 6 = .ok (.iconst 0, 1) := by decide +kernel
theorem dX10_setEnds_7 : decode cX10_setEnds 7 = .ok (.istore 4, 2) := by decide +kernel
theorem dX10_setEnds_9 : decode cX10_setEnds 9 = .ok (.iload 4, 2) := by decide +kernel
theorem dX10_setEnds_11 : decode cX10_setEnds 11 = .ok (.bipush 100, 2) := by decide +kernel
theorem dX10_setEnds_13 : decode cX10_setEnds 13 = .ok (.if_icmp .ge 40, 3) := by decide +kernel
theorem dX10_setEnds_16 : decode cX10_setEnds 16 = .ok (.aload_n 0, 1) := by decide +kernel
theorem dX10_setEnds_17 : decode cX10_setEnds 17 = .ok (.getfield 62, 3) := by decide +kernel
theorem dX10_setEnds_20 : decode cX10_setEnds 20 = .ok (.bipush 100, 2) := by decide +kernel
theorem dX10_setEnds_22 : decode cX10_setEnds 22 = .ok (.iload_n 1, 1) := by decide +kernel
theorem dX10_setEnds_23 : decode cX10_setEnds 23 = .ok (.imul, 1) := by decide +kernel
theorem dX10_setEnds_24 : decode cX10_setEnds 24 = .ok (.iload 4, 2) := by decide +kernel
theorem dX10_setEnds_26 : decode cX10_setEnds 26 = .ok (.iadd, 1) := by decide +kernel
theorem dX10_setEnds_27 : decode cX10_setEnds 27 = .ok (.baload, 1) := by decide +kernel
theorem dX10_setEnds_28 : decode cX10_setEnds 28 = .ok (.ifCond .eq 19, 3) := by decide +kernel
theorem dX10_setEnds_31 : decode cX10_setEnds 31 = .ok (.iload 4, 2) := by decide +kernel
theorem dX10_setEnds_33 : decode cX10_setEnds 33 = .ok (.iload_n 2, 1) := by decide +kernel
theorem dX10_setEnds_34 : decode cX10_setEnds 34 = .ok (.if_icmp .ge 8, 3) := by decide +kernel
theorem dX10_setEnds_37 : decode cX10_setEnds 37 = .ok (.iload 4, 2) := by decide +kernel
theorem dX10_setEnds_39 : decode cX10_setEnds 39 = .ok (.goto 4, 3) := by decide +kernel
theorem dX10_setEnds_42 : decode cX10_setEnds 42 = .ok (.iload_n 2, 1) := by decide +kernel
theorem dX10_setEnds_43 : decode cX10_setEnds 43 = .ok (.istore_n 2, 1) := by decide +kernel
theorem dX10_setEnds_44 : decode cX10_setEnds 44 = .ok (.iload 4, 2) := by decide +kernel
theorem dX10_setEnds_46 : decode cX10_setEnds 46 = .ok (.istore_n 3, 1) := by decide +kernel
theorem dX10_setEnds_47 : decode cX10_setEnds 47 = .ok (.iinc 4 1, 3) := by decide +kernel
theorem dX10_setEnds_50 : decode cX10_setEnds 50 = .ok (.goto (-41), 3) := by decide +kernel
theorem dX10_setEnds_53 : decode cX10_setEnds 53 = .ok (.aload_n 0, 1) := by decide +kernel
theorem dX10_setEnds_54 : decode cX10_setEnds 54 = .ok (.getfield 66, 3) := by decide +kernel
theorem dX10_setEnds_57 : decode cX10_setEnds 57 = .ok (.iload_n 1, 1) := by decide +kernel
theorem dX10_setEnds_58 : decode cX10_setEnds 58 = .ok (.aload_n 0, 1) := by decide +kernel
theorem dX10_setEnds_59 : decode cX10_setEnds 59 = .ok (.iload_n 1, 1) := by decide +kernel
theorem dX10_setEnds_60 : decode cX10_setEnds 60 = .ok (.invokevirtual 193, 3) := by decide +kernel
theorem dX10_setEnds_63 : decode cX10_setEnds 63 = .ok (.ifCond .eq 7, 3) := by decide +kernel
theorem dX10_setEnds_66 : decode cX10_setEnds 66 = .ok (.iload_n 2, 1) := by decide +kernel
theorem dX10_setEnds_67 : decode cX10_setEnds 67 = .ok (.goto 4, 3) := by decide +kernel
theorem dX10_setEnds_70 : decode cX10_setEnds 70 = .ok (.iconst 0, 1) := by decide +kernel
theorem dX10_setEnds_71 : decode cX10_setEnds 71 = .ok (.iastore, 1) := by decide +kernel
theorem dX10_setEnds_72 : decode cX10_setEnds 72 = .ok (.aload_n 0, 1) := by decide +kernel
theorem dX10_setEnds_73 : decode cX10_setEnds 73 = .ok (.getfield 69, 3) := by decide +kernel
theorem dX10_setEnds_76 : decode cX10_setEnds 76 = .ok (.iload_n 1, 1) := by decide +kernel
theorem dX10_setEnds_77 : decode cX10_setEnds 77 = .ok (.aload_n 0, 1) := by decide +kernel
theorem dX10_setEnds_78 : decode cX10_setEnds 78 = .ok (.iload_n 1, 1) := by decide +kernel
theorem dX10_setEnds_79 : decode cX10_setEnds 79 = .ok (.invokevirtual 193, 3) := by decide +kernel
theorem dX10_setEnds_82 : decode cX10_setEnds 82 = .ok (.ifCond .eq 7, 3) := by decide +kernel
theorem dX10_setEnds_85 : decode cX10_setEnds 85 = .ok (.iload_n 3, 1) := by decide +kernel
theorem dX10_setEnds_86 : decode cX10_setEnds 86 = .ok (.goto 4, 3) := by decide +kernel
theorem dX10_setEnds_89 : decode cX10_setEnds 89 = .ok (.iconst 0, 1) := by decide +kernel
theorem dX10_setEnds_90 : decode cX10_setEnds 90 = .ok (.iastore, 1) := by decide +kernel
theorem dX10_setEnds_91 : decode cX10_setEnds 91 = .ok (.aload_n 0, 1) := by decide +kernel
theorem dX10_setEnds_92 : decode cX10_setEnds 92 = .ok (.iload_n 1, 1) := by decide +kernel
theorem dX10_setEnds_93 : decode cX10_setEnds 93 = .ok (.invokevirtual 193, 3) := by decide +kernel
theorem dX10_setEnds_96 : decode cX10_setEnds 96 = .ok (.ifCond .eq 7, 3) := by decide +kernel
theorem dX10_setEnds_99 : decode cX10_setEnds 99 = .ok (.iload_n 3, 1) := by decide +kernel
theorem dX10_setEnds_100 : decode cX10_setEnds 100 = .ok (.ifCond .lt 7, 3) := by decide +kernel
theorem dX10_setEnds_103 : decode cX10_setEnds 103 = .ok (.iconst 1, 1) := by decide +kernel
theorem dX10_setEnds_104 : decode cX10_setEnds 104 = .ok (.goto 4, 3) := by decide +kernel
theorem dX10_setEnds_107 : decode cX10_setEnds 107 = .ok (.iconst 0, 1) := by decide +kernel
theorem dX10_setEnds_108 : decode cX10_setEnds 108 = .ok (.ireturn, 1) := by decide +kernel
theorem dX10_makes_0 : decode cX10_makes 0 = .ok (.iconst 0, 1) := by decide +kernel
theorem dX10_makes_1 : decode cX10_makes 1 = .ok (.istore 4, 2) := by decide +kernel
theorem dX10_makes_3 : decode cX10_makes 3 = .ok (.iconst 0, 1) := by decide +kernel
theorem dX10_makes_4 : decode cX10_makes 4 = .ok (.istore 5, 2) := by decide +kernel
theorem dX10_makes_6 : decode cX10_makes 6 = .ok (.iload 5, 2) := by decide +kernel
theorem dX10_makes_8 : decode cX10_makes 8 = .ok (.bipush 12, 2) := by decide +kernel
theorem dX10_makes_10 : decode cX10_makes 10 = .ok (.if_icmp .ge 103, 3) := by decide +kernel
theorem dX10_makes_13 : decode cX10_makes 13 = .ok (.iload 5, 2) := by decide +kernel
theorem dX10_makes_15 : decode cX10_makes 15 = .ok (.iload_n 2, 1) := by decide +kernel
theorem dX10_makes_16 : decode cX10_makes 16 = .ok (.if_icmp .eq 91, 3) := by decide +kernel
theorem dX10_makes_19 : decode cX10_makes 19 = .ok (.iload 4, 2) := by decide +kernel
theorem dX10_makes_21 : decode cX10_makes 21 = .ok (.aload_n 0, 1) := by decide +kernel
theorem dX10_makes_22 : decode cX10_makes 22 = .ok (.getfield 50, 3) := by decide +kernel
theorem dX10_makes_25 : decode cX10_makes 25 = .ok (.iload_n 1, 1) := by decide +kernel
theorem dX10_makes_26 : decode cX10_makes 26 = .ok (.iaload, 1) := by decide +kernel
theorem dX10_makes_27 : decode cX10_makes 27 = .ok (.iload 5, 2) := by decide +kernel
theorem dX10_makes_29 : decode cX10_makes 29 = .ok (.invokestatic 208, 3) := by decide +kernel
theorem dX10_makes_32 : decode cX10_makes 32 = .ok (.ifCond .eq 27, 3) := by decide +kernel
theorem dX10_makes_35 : decode cX10_makes 35 = .ok (.iload_n 3, 1) := by decide +kernel
theorem dX10_makes_36 : decode cX10_makes 36 = .ok (.ifCond .eq 13, 3) := by decide +kernel
theorem dX10_makes_39 : decode cX10_makes 39 = .ok (.aload_n 0, 1) := by decide +kernel
theorem dX10_makes_40 : decode cX10_makes 40 = .ok (.getfield 69, 3) := by decide +kernel
theorem dX10_makes_43 : decode cX10_makes 43 = .ok (.iload 5, 2) := by decide +kernel
theorem dX10_makes_45 : decode cX10_makes 45 = .ok (.iaload, 1) := by decide +kernel
theorem dX10_makes_46 : decode cX10_makes 46 = .ok (.goto 14, 3) := by decide +kernel
theorem dX10_makes_49 : decode cX10_makes 49 = .ok (.aload_n 0, 1) := by decide +kernel
theorem dX10_makes_50 : decode cX10_makes 50 = .ok (.getfield 66, 3) := by decide +kernel
theorem dX10_makes_53 : decode cX10_makes 53 = .ok (.iload 5, 2) := by decide +kernel
theorem dX10_makes_55 : decode cX10_makes 55 = .ok (.iaload, 1) := by decide +kernel
theorem dX10_makes_56 : decode cX10_makes 56 = .ok (.goto 4, 3) := by decide +kernel
theorem dX10_makes_59 : decode cX10_makes 59 = .ok (.iconst 0, 1) := by decide +kernel
theorem dX10_makes_60 : decode cX10_makes 60 = .ok (.iadd, 1) := by decide +kernel
theorem dX10_makes_61 : decode cX10_makes 61 = .ok (.istore 4, 2) := by decide +kernel
theorem dX10_makes_63 : decode cX10_makes 63 = .ok (.iload 4, 2) := by decide +kernel
theorem dX10_makes_65 : decode cX10_makes 65 = .ok (.aload_n 0, 1) := by decide +kernel
theorem dX10_makes_66 : decode cX10_makes 66 = .ok (.getfield 53, 3) := by decide +kernel
theorem dX10_makes_69 : decode cX10_makes 69 = .ok (.iload_n 1, 1) := by decide +kernel
theorem dX10_makes_70 : decode cX10_makes 70 = .ok (.iaload, 1) := by decide +kernel
theorem dX10_makes_71 : decode cX10_makes 71 = .ok (.iload 5, 2) := by decide +kernel
theorem dX10_makes_73 : decode cX10_makes 73 = .ok (.invokestatic 208, 3) := by decide +kernel
theorem dX10_makes_76 : decode cX10_makes 76 = .ok (.ifCond .eq 27, 3) := by decide +kernel
theorem dX10_makes_79 : decode cX10_makes 79 = .ok (.iload_n 3, 1) := by decide +kernel
theorem dX10_makes_80 : decode cX10_makes 80 = .ok (.ifCond .eq 13, 3) := by decide +kernel
theorem dX10_makes_83 : decode cX10_makes 83 = .ok (.aload_n 0, 1) := by decide +kernel
theorem dX10_makes_84 : decode cX10_makes 84 = .ok (.getfield 66, 3) := by decide +kernel
theorem dX10_makes_87 : decode cX10_makes 87 = .ok (.iload 5, 2) := by decide +kernel
theorem dX10_makes_89 : decode cX10_makes 89 = .ok (.iaload, 1) := by decide +kernel
theorem dX10_makes_90 : decode cX10_makes 90 = .ok (.goto 14, 3) := by decide +kernel
theorem dX10_makes_93 : decode cX10_makes 93 = .ok (.aload_n 0, 1) := by decide +kernel
theorem dX10_makes_94 : decode cX10_makes 94 = .ok (.getfield 69, 3) := by decide +kernel
theorem dX10_makes_97 : decode cX10_makes 97 = .ok (.iload 5, 2) := by decide +kernel
theorem dX10_makes_99 : decode cX10_makes 99 = .ok (.iaload, 1) := by decide +kernel
theorem dX10_makes_100 : decode cX10_makes 100 = .ok (.goto 4, 3) := by decide +kernel
theorem dX10_makes_103 : decode cX10_makes 103 = .ok (.iconst 0, 1) := by decide +kernel
theorem dX10_makes_104 : decode cX10_makes 104 = .ok (.isub, 1) := by decide +kernel
theorem dX10_makes_105 : decode cX10_makes 105 = .ok (.istore 4, 2) := by decide +kernel
theorem dX10_makes_107 : decode cX10_makes 107 = .ok (.iinc 5 1, 3) := by decide +kernel
theorem dX10_makes_110 : decode cX10_makes 110 = .ok (.goto (-104), 3) := by decide +kernel
theorem dX10_makes_113 : decode cX10_makes 113 = .ok (.iload 4, 2) := by decide +kernel
theorem dX10_makes_115 : decode cX10_makes 115 = .ok (.ireturn, 1) := by decide +kernel
theorem dX10_canSum_0 : decode cX10_canSum 0 = .ok (.aload_n 0, 1) := by decide +kernel
theorem dX10_canSum_1 : decode cX10_canSum 1 = .ok (.getfield 56, 3) := by decide +kernel
theorem dX10_canSum_4 : decode cX10_canSum 4 = .ok (.iload_n 1, 1) := by decide +kernel
theorem dX10_canSum_5 : decode cX10_canSum 5 = .ok (.iaload, 1) := by decide +kernel
theorem dX10_canSum_6 : decode cX10_canSum 6 = .ok (.aload_n 0, 1) := by decide +kernel
theorem dX10_canSum_7 : decode cX10_canSum 7 = .ok (.getfield 50, 3) := by decide +kernel
theorem dX10_canSum_10 : decode cX10_canSum 10 = .ok (.iload_n 1, 1) := by decide +kernel
theorem dX10_canSum_11 : decode cX10_canSum 11 = .ok (.iaload, 1) := by decide +kernel
theorem dX10_canSum_12 : decode cX10_canSum 12 = .ok (.iload_n 2, 1) := by decide +kernel
theorem dX10_canSum_13 : decode cX10_canSum 13 = .ok (.invokestatic 208, 3) := by decide +kernel
theorem dX10_canSum_16 : decode cX10_canSum 16 = .ok (.ifCond .eq 7, 3) := by decide +kernel
theorem dX10_canSum_19 : decode cX10_canSum 19 = .ok (.iload_n 3, 1) := by decide +kernel
theorem dX10_canSum_20 : decode cX10_canSum 20 = .ok (.goto 5, 3) := by decide +kernel
theorem dX10_canSum_23 : decode cX10_canSum 23 = .ok (.iload_n 3, 1) := by decide +kernel
theorem dX10_canSum_24 : decode cX10_canSum 24 = .ok (.ineg, 1) := by decide +kernel
theorem dX10_canSum_25 : decode cX10_canSum 25 = .ok (.isub, 1) := by decide +kernel
theorem dX10_canSum_26 : decode cX10_canSum 26 = .ok (.istore 4, 2) := by decide +kernel
theorem dX10_canSum_28 : decode cX10_canSum 28 = .ok (.iload 4, 2) := by decide +kernel
theorem dX10_canSum_30 : decode cX10_canSum 30 = .ok (.aload_n 0, 1) := by decide +kernel
theorem dX10_canSum_31 : decode cX10_canSum 31 = .ok (.iload_n 1, 1) := by decide +kernel
theorem dX10_canSum_32 : decode cX10_canSum 32 = .ok (.iload_n 2, 1) := by decide +kernel
theorem dX10_canSum_33 : decode cX10_canSum 33 = .ok (.iconst 0, 1) := by decide +kernel
theorem dX10_canSum_34 : decode cX10_canSum 34 = .ok (.invokevirtual 211, 3) := by decide +kernel
theorem dX10_canSum_37 : decode cX10_canSum 37 = .ok (.aload_n 0, 1) := by decide +kernel
theorem dX10_canSum_38 : decode cX10_canSum 38 = .ok (.iload_n 1, 1) := by decide +kernel
theorem dX10_canSum_39 : decode cX10_canSum 39 = .ok (.iload_n 2, 1) := by decide +kernel
theorem dX10_canSum_40 : decode cX10_canSum 40 = .ok (.iconst 1, 1) := by decide +kernel
theorem dX10_canSum_41 : decode cX10_canSum 41 = .ok (.invokevirtual 211, 3) := by decide +kernel
theorem dX10_canSum_44 : decode cX10_canSum 44 = .ok (.invokestatic 103, 3) := by decide +kernel
theorem dX10_canSum_47 : decode cX10_canSum 47 = .ok (.ireturn, 1) := by decide +kernel
theorem dX10_can_0 : decode cX10_can 0 = .ok (.iconst 1, 1) := by decide +kernel
theorem dX10_can_1 : decode cX10_can 1 = .ok (.istore 4, 2) := by decide +kernel
theorem dX10_can_3 : decode cX10_can 3 = .ok (.iconst 0, 1) := by decide +kernel
theorem dX10_can_4 : decode cX10_can 4 = .ok (.istore 5, 2) := by decide +kernel
theorem dX10_can_6 : decode cX10_can 6 = .ok (.iload 5, 2) := by decide +kernel
theorem dX10_can_8 : decode cX10_can 8 = .ok (.aload_n 0, 1) := by decide +kernel
theorem dX10_can_9 : decode cX10_can 9 = .ok (.getfield 172, 3) := by decide +kernel
theorem dX10_can_12 : decode cX10_can 12 = .ok (.if_icmp .ge 63, 3) := by decide +kernel
theorem dX10_can_15 : decode cX10_can 15 = .ok (.iload 4, 2) := by decide +kernel
theorem dX10_can_17 : decode cX10_can 17 = .ok (.ifCond .eq 58, 3) := by decide +kernel
theorem dX10_can_20 : decode cX10_can 20 = .ok (.iload_n 3, 1) := by decide +kernel
theorem dX10_can_21 : decode cX10_can 21 = .ok (.iload 5, 2) := by decide +kernel
theorem dX10_can_23 : decode cX10_can 23 = .ok (.invokestatic 208, 3) := by decide +kernel
theorem dX10_can_26 : decode cX10_can 26 = .ok (.ifCond .ne 36, 3) := by decide +kernel
theorem dX10_can_29 : decode cX10_can 29 = .ok (.aload_n 0, 1) := by decide +kernel
theorem dX10_can_30 : decode cX10_can 30 = .ok (.getfield 50, 3) := by decide +kernel
theorem dX10_can_33 : decode cX10_can 33 = .ok (.iload 5, 2) := by decide +kernel
theorem dX10_can_35 : decode cX10_can 35 = .ok (.iaload, 1) := by decide +kernel
theorem dX10_can_36 : decode cX10_can 36 = .ok (.aload_n 0, 1) := by decide +kernel
theorem dX10_can_37 : decode cX10_can 37 = .ok (.getfield 53, 3) := by decide +kernel
theorem dX10_can_40 : decode cX10_can 40 = .ok (.iload 5, 2) := by decide +kernel
theorem dX10_can_42 : decode cX10_can 42 = .ok (.iaload, 1) := by decide +kernel
theorem dX10_can_43 : decode cX10_can 43 = .ok (.ior, 1) := by decide +kernel
theorem dX10_can_44 : decode cX10_can 44 = .ok (.iload_n 1, 1) := by decide +kernel
theorem dX10_can_45 : decode cX10_can 45 = .ok (.invokestatic 208, 3) := by decide +kernel
theorem dX10_can_48 : decode cX10_can 48 = .ok (.ifCond .eq 14, 3) := by decide +kernel
theorem dX10_can_51 : decode cX10_can 51 = .ok (.aload_n 0, 1) := by decide +kernel
theorem dX10_can_52 : decode cX10_can 52 = .ok (.iload 5, 2) := by decide +kernel
theorem dX10_can_54 : decode cX10_can 54 = .ok (.iload_n 1, 1) := by decide +kernel
theorem dX10_can_55 : decode cX10_can 55 = .ok (.iload_n 2, 1) := by decide +kernel
theorem dX10_can_56 : decode cX10_can 56 = .ok (.invokevirtual 215, 3) := by decide +kernel
theorem dX10_can_59 : decode cX10_can 59 = .ok (.ifCond .eq 7, 3) := by decide +kernel
theorem dX10_can_62 : decode cX10_can 62 = .ok (.iconst 1, 1) := by decide +kernel
theorem dX10_can_63 : decode cX10_can 63 = .ok (.goto 4, 3) := by decide +kernel
theorem dX10_can_66 : decode cX10_can 66 = .ok (.iconst 0, 1) := by decide +kernel
theorem dX10_can_67 : decode cX10_can 67 = .ok (.istore 4, 2) := by decide +kernel
theorem dX10_can_69 : decode cX10_can 69 = .ok (.iinc 5 1, 3) := by decide +kernel
theorem dX10_can_72 : decode cX10_can 72 = .ok (.goto (-66), 3) := by decide +kernel
theorem dX10_can_75 : decode cX10_can 75 = .ok (.aload_n 0, 1) := by decide +kernel
theorem dX10_can_76 : decode cX10_can 76 = .ok (.getfield 41, 3) := by decide +kernel
theorem dX10_can_79 : decode cX10_can 79 = .ok (.iload_n 1, 1) := by decide +kernel
theorem dX10_can_80 : decode cX10_can 80 = .ok (.iaload, 1) := by decide +kernel
theorem dX10_can_81 : decode cX10_can 81 = .ok (.iconst 2, 1) := by decide +kernel
theorem dX10_can_82 : decode cX10_can 82 = .ok (.if_icmp .ne 68, 3) := by decide +kernel
theorem dX10_can_85 : decode cX10_can 85 = .ok (.iload 4, 2) := by decide +kernel
theorem dX10_can_87 : decode cX10_can 87 = .ok (.ifCond .eq 60, 3) := by decide +kernel
theorem dX10_can_90 : decode cX10_can 90 = .ok (.iload_n 2, 1) := by decide +kernel
theorem dX10_can_91 : decode cX10_can 91 = .ok (.aload_n 0, 1) := by decide +kernel
theorem dX10_can_92 : decode cX10_can 92 = .ok (.getfield 66, 3) := by decide +kernel
theorem dX10_can_95 : decode cX10_can 95 = .ok (.aload_n 0, 1) := by decide +kernel
theorem dX10_can_96 : decode cX10_can 96 = .ok (.getfield 44, 3) := by decide +kernel
theorem dX10_can_99 : decode cX10_can 99 = .ok (.iload_n 1, 1) := by decide +kernel
theorem dX10_can_100 : decode cX10_can 100 = .ok (.iaload, 1) := by decide +kernel
theorem dX10_can_101 : decode cX10_can 101 = .ok (.iaload, 1) := by decide +kernel
theorem dX10_can_102 : decode cX10_can 102 = .ok (.aload_n 0, 1) := by decide +kernel
theorem dX10_can_103 : decode cX10_can 103 = .ok (.getfield 66, 3) := by decide +kernel
theorem dX10_can_106 : decode cX10_can 106 = .ok (.aload_n 0, 1) := by decide +kernel
theorem dX10_can_107 : decode cX10_can 107 = .ok (.getfield 47, 3) := by decide +kernel
theorem dX10_can_110 : decode cX10_can 110 = .ok (.iload_n 1, 1) := by decide +kernel
theorem dX10_can_111 : decode cX10_can 111 = .ok (.iaload, 1) := by decide +kernel
theorem dX10_can_112 : decode cX10_can 112 = .ok (.iaload, 1) := by decide +kernel
theorem dX10_can_113 : decode cX10_can 113 = .ok (.imul, 1) := by decide +kernel
theorem dX10_can_114 : decode cX10_can 114 = .ok (.aload_n 0, 1) := by decide +kernel
theorem dX10_can_115 : decode cX10_can 115 = .ok (.getfield 69, 3) := by decide +kernel
theorem dX10_can_118 : decode cX10_can 118 = .ok (.aload_n 0, 1) := by decide +kernel
theorem dX10_can_119 : decode cX10_can 119 = .ok (.getfield 44, 3) := by decide +kernel
theorem dX10_can_122 : decode cX10_can 122 = .ok (.iload_n 1, 1) := by decide +kernel
theorem dX10_can_123 : decode cX10_can 123 = .ok (.iaload, 1) := by decide +kernel
theorem dX10_can_124 : decode cX10_can 124 = .ok (.iaload, 1) := by decide +kernel
theorem dX10_can_125 : decode cX10_can 125 = .ok (.aload_n 0, 1) := by decide +kernel
theorem dX10_can_126 : decode cX10_can 126 = .ok (.getfield 69, 3) := by decide +kernel
theorem dX10_can_129 : decode cX10_can 129 = .ok (.aload_n 0, 1) := by decide +kernel
theorem dX10_can_130 : decode cX10_can 130 = .ok (.getfield 47, 3) := by decide +kernel
theorem dX10_can_133 : decode cX10_can 133 = .ok (.iload_n 1, 1) := by decide +kernel
theorem dX10_can_134 : decode cX10_can 134 = .ok (.iaload, 1) := by decide +kernel
theorem dX10_can_135 : decode cX10_can 135 = .ok (.iaload, 1) := by decide +kernel
theorem dX10_can_136 : decode cX10_can 136 = .ok (.imul, 1) := by decide +kernel
theorem dX10_can_137 : decode cX10_can 137 = .ok (.invokestatic 103, 3) := by decide +kernel
theorem dX10_can_140 : decode cX10_can 140 = .ok (.ifCond .eq 7, 3) := by decide +kernel
theorem dX10_can_143 : decode cX10_can 143 = .ok (.iconst 1, 1) := by decide +kernel
theorem dX10_can_144 : decode cX10_can 144 = .ok (.goto 4, 3) := by decide +kernel
theorem dX10_can_147 : decode cX10_can 147 = .ok (.iconst 0, 1) := by decide +kernel
theorem dX10_can_148 : decode cX10_can 148 = .ok (.istore 4, 2) := by decide +kernel
theorem dX10_can_150 : decode cX10_can 150 = .ok (.aload_n 0, 1) := by decide +kernel
theorem dX10_can_151 : decode cX10_can 151 = .ok (.getfield 41, 3) := by decide +kernel
theorem dX10_can_154 : decode cX10_can 154 = .ok (.iload_n 1, 1) := by decide +kernel
theorem dX10_can_155 : decode cX10_can 155 = .ok (.iaload, 1) := by decide +kernel
theorem dX10_can_156 : decode cX10_can 156 = .ok (.iconst 4, 1) := by decide +kernel
theorem dX10_can_157 : decode cX10_can 157 = .ok (.if_icmp .ne 30, 3) := by decide +kernel
theorem dX10_can_160 : decode cX10_can 160 = .ok (.iload 4, 2) := by decide +kernel
theorem dX10_can_162 : decode cX10_can 162 = .ok (.ifCond .eq 22, 3) := by decide +kernel
theorem dX10_can_165 : decode cX10_can 165 = .ok (.iload_n 2, 1) := by decide +kernel
theorem dX10_can_166 : decode cX10_can 166 = .ok (.aload_n 0, 1) := by decide +kernel
theorem dX10_can_167 : decode cX10_can 167 = .ok (.getfield 66, 3) := by decide +kernel
theorem dX10_can_170 : decode cX10_can 170 = .ok (.aload_n 0, 1) := by decide +kernel
theorem dX10_can_171 : decode cX10_can 171 = .ok (.getfield 44, 3) := by decide +kernel
theorem dX10_can_174 : decode cX10_can 174 = .ok (.iload_n 1, 1) := by decide +kernel
theorem dX10_can_175 : decode cX10_can 175 = .ok (.iaload, 1) := by decide +kernel
theorem dX10_can_176 : decode cX10_can 176 = .ok (.iaload, 1) := by decide +kernel
theorem dX10_can_177 : decode cX10_can 177 = .ok (.if_icmp .le 7, 3) := by decide +kernel
theorem dX10_can_180 : decode cX10_can 180 = .ok (.iconst 1, 1) := by decide +kernel
theorem dX10_can_181 : decode cX10_can 181 = .ok (.goto 4, 3) := by decide +kernel
theorem dX10_can_184 : decode cX10_can 184 = .ok (.iconst 0, 1) := by decide +kernel
theorem dX10_can_185 : decode cX10_can 185 = .ok (.istore 4, 2) := by decide +kernel
theorem dX10_can_187 : decode cX10_can 187 = .ok (.iconst 0, 1) := by decide +kernel
theorem dX10_can_188 : decode cX10_can 188 = .ok (.istore 5, 2) := by decide +kernel
theorem dX10_can_190 : decode cX10_can 190 = .ok (.iload 5, 2) := by decide +kernel
theorem dX10_can_192 : decode cX10_can 192 = .ok (.bipush 12, 2) := by decide +kernel
theorem dX10_can_194 : decode cX10_can 194 = .ok (.if_icmp .ge 218, 3) := by decide +kernel
theorem dX10_can_197 : decode cX10_can 197 = .ok (.iload 4, 2) := by decide +kernel
theorem dX10_can_199 : decode cX10_can 199 = .ok (.ifCond .eq 213, 3) := by decide +kernel
theorem dX10_can_202 : decode cX10_can 202 = .ok (.aload_n 0, 1) := by decide +kernel
theorem dX10_can_203 : decode cX10_can 203 = .ok (.getfield 41, 3) := by decide +kernel
theorem dX10_can_206 : decode cX10_can 206 = .ok (.iload 5, 2) := by decide +kernel
theorem dX10_can_208 : decode cX10_can 208 = .ok (.iaload, 1) := by decide +kernel
theorem dX10_can_209 : decode cX10_can 209 = .ok (.iconst 2, 1) := by decide +kernel
theorem dX10_can_210 : decode cX10_can 210 = .ok (.if_icmp .ne 69, 3) := by decide +kernel
theorem dX10_can_213 : decode cX10_can 213 = .ok (.aload_n 0, 1) := by decide +kernel
theorem dX10_can_214 : decode cX10_can 214 = .ok (.getfield 44, 3) := by decide +kernel
theorem dX10_can_217 : decode cX10_can 217 = .ok (.iload 5, 2) := by decide +kernel
theorem dX10_can_219 : decode cX10_can 219 = .ok (.iaload, 1) := by decide +kernel
theorem dX10_can_220 : decode cX10_can 220 = .ok (.iload_n 1, 1) := by decide +kernel
theorem dX10_can_221 : decode cX10_can 221 = .ok (.if_icmp .ne 58, 3) := by decide +kernel
theorem dX10_can_224 : decode cX10_can 224 = .ok (.iload_n 2, 1) := by decide +kernel
theorem dX10_can_225 : decode cX10_can 225 = .ok (.aload_n 0, 1) := by decide +kernel
theorem dX10_can_226 : decode cX10_can 226 = .ok (.getfield 66, 3) := by decide +kernel
theorem dX10_can_229 : decode cX10_can 229 = .ok (.aload_n 0, 1) := by decide +kernel
theorem dX10_can_230 : decode cX10_can 230 = .ok (.getfield 47, 3) := by decide +kernel
theorem dX10_can_233 : decode cX10_can 233 = .ok (.iload 5, 2) := by decide +kernel
theorem dX10_can_235 : decode cX10_can 235 = .ok (.iaload, 1) := by decide +kernel
theorem dX10_can_236 : decode cX10_can 236 = .ok (.iaload, 1) := by decide +kernel
theorem dX10_can_237 : decode cX10_can 237 = .ok (.imul, 1) := by decide +kernel
theorem dX10_can_238 : decode cX10_can 238 = .ok (.aload_n 0, 1) := by decide +kernel
theorem dX10_can_239 : decode cX10_can 239 = .ok (.getfield 69, 3) := by decide +kernel
theorem dX10_can_242 : decode cX10_can 242 = .ok (.iload 5, 2) := by decide +kernel
theorem dX10_can_244 : decode cX10_can 244 = .ok (.iaload, 1) := by decide +kernel
theorem dX10_can_245 : decode cX10_can 245 = .ok (.if_icmp .gt 31, 3) := by decide +kernel
theorem dX10_can_248 : decode cX10_can 248 = .ok (.iload_n 2, 1) := by decide +kernel
theorem dX10_can_249 : decode cX10_can 249 = .ok (.aload_n 0, 1) := by decide +kernel
theorem dX10_can_250 : decode cX10_can 250 = .ok (.getfield 69, 3) := by decide +kernel
theorem dX10_can_253 : decode cX10_can 253 = .ok (.aload_n 0, 1) := by decide +kernel
theorem dX10_can_254 : decode cX10_can 254 = .ok (.getfield 47, 3) := by decide +kernel
theorem dX10_can_257 : decode cX10_can 257 = .ok (.iload 5, 2) := by decide +kernel
theorem dX10_can_259 : decode cX10_can 259 = .ok (.iaload, 1) := by decide +kernel
theorem dX10_can_260 : decode cX10_can 260 = .ok (.iaload, 1) := by decide +kernel
theorem dX10_can_261 : decode cX10_can 261 = .ok (.imul, 1) := by decide +kernel
theorem dX10_can_262 : decode cX10_can 262 = .ok (.aload_n 0, 1) := by decide +kernel
theorem dX10_can_263 : decode cX10_can 263 = .ok (.getfield 66, 3) := by decide +kernel
theorem dX10_can_266 : decode cX10_can 266 = .ok (.iload 5, 2) := by decide +kernel
theorem dX10_can_268 : decode cX10_can 268 = .ok (.iaload, 1) := by decide +kernel
theorem dX10_can_269 : decode cX10_can 269 = .ok (.if_icmp .lt 7, 3) := by decide +kernel
theorem dX10_can_272 : decode cX10_can 272 = .ok (.iconst 1, 1) := by decide +kernel
theorem dX10_can_273 : decode cX10_can 273 = .ok (.goto 4, 3) := by decide +kernel
theorem dX10_can_276 : decode cX10_can 276 = .ok (.iconst 0, 1) := by decide +kernel
theorem dX10_can_277 : decode cX10_can 277 = .ok (.istore 4, 2) := by decide +kernel
theorem dX10_can_279 : decode cX10_can 279 = .ok (.aload_n 0, 1) := by decide +kernel
theorem dX10_can_280 : decode cX10_can 280 = .ok (.getfield 41, 3) := by decide +kernel
theorem dX10_can_283 : decode cX10_can 283 = .ok (.iload 5, 2) := by decide +kernel
theorem dX10_can_285 : decode cX10_can 285 = .ok (.iaload, 1) := by decide +kernel
theorem dX10_can_286 : decode cX10_can 286 = .ok (.iconst 2, 1) := by decide +kernel
theorem dX10_can_287 : decode cX10_can 287 = .ok (.if_icmp .ne 74, 3) := by decide +kernel
theorem dX10_can_290 : decode cX10_can 290 = .ok (.aload_n 0, 1) := by decide +kernel
theorem dX10_can_291 : decode cX10_can 291 = .ok (.getfield 47, 3) := by decide +kernel
theorem dX10_can_294 : decode cX10_can 294 = .ok (.iload 5, 2) := by decide +kernel
theorem dX10_can_296 : decode cX10_can 296 = .ok (.iaload, 1) := by decide +kernel
theorem dX10_can_297 : decode cX10_can 297 = .ok (.iload_n 1, 1) := by decide +kernel
theorem dX10_can_298 : decode cX10_can 298 = .ok (.if_icmp .ne 63, 3) := by decide +kernel
theorem dX10_can_301 : decode cX10_can 301 = .ok (.iload 4, 2) := by decide +kernel
theorem dX10_can_303 : decode cX10_can 303 = .ok (.ifCond .eq 55, 3) := by decide +kernel
theorem dX10_can_306 : decode cX10_can 306 = .ok (.iload_n 2, 1) := by decide +kernel
theorem dX10_can_307 : decode cX10_can 307 = .ok (.aload_n 0, 1) := by decide +kernel
theorem dX10_can_308 : decode cX10_can 308 = .ok (.getfield 66, 3) := by decide +kernel
theorem dX10_can_311 : decode cX10_can 311 = .ok (.aload_n 0, 1) := by decide +kernel
theorem dX10_can_312 : decode cX10_can 312 = .ok (.getfield 44, 3) := by decide +kernel
theorem dX10_can_315 : decode cX10_can 315 = .ok (.iload 5, 2) := by decide +kernel
theorem dX10_can_317 : decode cX10_can 317 = .ok (.iaload, 1) := by decide +kernel
theorem dX10_can_318 : decode cX10_can 318 = .ok (.iaload, 1) := by decide +kernel
theorem dX10_can_319 : decode cX10_can 319 = .ok (.imul, 1) := by decide +kernel
theorem dX10_can_320 : decode cX10_can 320 = .ok (.aload_n 0, 1) := by decide +kernel
theorem dX10_can_321 : decode cX10_can 321 = .ok (.getfield 69, 3) := by decide +kernel
theorem dX10_can_324 : decode cX10_can 324 = .ok (.iload 5, 2) := by decide +kernel
theorem dX10_can_326 : decode cX10_can 326 = .ok (.iaload, 1) := by decide +kernel
theorem dX10_can_327 : decode cX10_can 327 = .ok (.if_icmp .gt 31, 3) := by decide +kernel
theorem dX10_can_330 : decode cX10_can 330 = .ok (.iload_n 2, 1) := by decide +kernel
theorem dX10_can_331 : decode cX10_can 331 = .ok (.aload_n 0, 1) := by decide +kernel
theorem dX10_can_332 : decode cX10_can 332 = .ok (.getfield 69, 3) := by decide +kernel
theorem dX10_can_335 : decode cX10_can 335 = .ok (.aload_n 0, 1) := by decide +kernel
theorem dX10_can_336 : decode cX10_can 336 = .ok (.getfield 44, 3) := by decide +kernel
theorem dX10_can_339 : decode cX10_can 339 = .ok (.iload 5, 2) := by decide +kernel
theorem dX10_can_341 : decode cX10_can 341 = .ok (.iaload, 1) := by decide +kernel
theorem dX10_can_342 : decode cX10_can 342 = .ok (.iaload, 1) := by decide +kernel
theorem dX10_can_343 : decode cX10_can 343 = .ok (.imul, 1) := by decide +kernel
theorem dX10_can_344 : decode cX10_can 344 = .ok (.aload_n 0, 1) := by decide +kernel
theorem dX10_can_345 : decode cX10_can 345 = .ok (.getfield 66, 3) := by decide +kernel
theorem dX10_can_348 : decode cX10_can 348 = .ok (.iload 5, 2) := by decide +kernel
theorem dX10_can_350 : decode cX10_can 350 = .ok (.iaload, 1) := by decide +kernel
theorem dX10_can_351 : decode cX10_can 351 = .ok (.if_icmp .lt 7, 3) := by decide +kernel
theorem dX10_can_354 : decode cX10_can 354 = .ok (.iconst 1, 1) := by decide +kernel
theorem dX10_can_355 : decode cX10_can 355 = .ok (.goto 4, 3) := by decide +kernel
theorem dX10_can_358 : decode cX10_can 358 = .ok (.iconst 0, 1) := by decide +kernel
theorem dX10_can_359 : decode cX10_can 359 = .ok (.istore 4, 2) := by decide +kernel
theorem dX10_can_361 : decode cX10_can 361 = .ok (.aload_n 0, 1) := by decide +kernel
theorem dX10_can_362 : decode cX10_can 362 = .ok (.getfield 41, 3) := by decide +kernel
theorem dX10_can_365 : decode cX10_can 365 = .ok (.iload 5, 2) := by decide +kernel
theorem dX10_can_367 : decode cX10_can 367 = .ok (.iaload, 1) := by decide +kernel
theorem dX10_can_368 : decode cX10_can 368 = .ok (.iconst 4, 1) := by decide +kernel
theorem dX10_can_369 : decode cX10_can 369 = .ok (.if_icmp .ne 37, 3) := by decide +kernel
theorem dX10_can_372 : decode cX10_can 372 = .ok (.aload_n 0, 1) := by decide +kernel
theorem dX10_can_373 : decode cX10_can 373 = .ok (.getfield 44, 3) := by decide +kernel
theorem dX10_can_376 : decode cX10_can 376 = .ok (.iload 5, 2) := by decide +kernel
theorem dX10_can_378 : decode cX10_can 378 = .ok (.iaload, 1) := by decide +kernel
theorem dX10_can_379 : decode cX10_can 379 = .ok (.iload_n 1, 1) := by decide +kernel
theorem dX10_can_380 : decode cX10_can 380 = .ok (.if_icmp .ne 26, 3) := by decide +kernel
theorem dX10_can_383 : decode cX10_can 383 = .ok (.iload 4, 2) := by decide +kernel
theorem dX10_can_385 : decode cX10_can 385 = .ok (.ifCond .eq 18, 3) := by decide +kernel
theorem dX10_can_388 : decode cX10_can 388 = .ok (.iload_n 2, 1) := by decide +kernel
theorem dX10_can_389 : decode cX10_can 389 = .ok (.aload_n 0, 1) := by decide +kernel
theorem dX10_can_390 : decode cX10_can 390 = .ok (.getfield 69, 3) := by decide +kernel
theorem dX10_can_393 : decode cX10_can 393 = .ok (.iload 5, 2) := by decide +kernel
theorem dX10_can_395 : decode cX10_can 395 = .ok (.iaload, 1) := by decide +kernel
theorem dX10_can_396 : decode cX10_can 396 = .ok (.if_icmp .ge 7, 3) := by decide +kernel
theorem dX10_can_399 : decode cX10_can 399 = .ok (.iconst 1, 1) := by decide +kernel
theorem dX10_can_400 : decode cX10_can 400 = .ok (.goto 4, 3) := by decide +kernel
theorem dX10_can_403 : decode cX10_can 403 = .ok (.iconst 0, 1) := by decide +kernel
theorem dX10_can_404 : decode cX10_can 404 = .ok (.istore 4, 2) := by decide +kernel
theorem dX10_can_406 : decode cX10_can 406 = .ok (.iinc 5 1, 3) := by decide +kernel
theorem dX10_can_409 : decode cX10_can 409 = .ok (.goto (-219), 3) := by decide +kernel
theorem dX10_can_412 : decode cX10_can 412 = .ok (.iload 4, 2) := by decide +kernel
theorem dX10_can_414 : decode cX10_can 414 = .ok (.ireturn, 1) := by decide +kernel
theorem dX10_narrow_0 : decode cX10_narrow 0 = .ok (.aload_n 0, 1) := by decide +kernel
theorem dX10_narrow_1 : decode cX10_narrow 1 = .ok (.invokevirtual 218, 3) := by decide +kernel
theorem dX10_narrow_4 : decode cX10_narrow 4 = .ok (.iconst 1, 1) := by decide +kernel
theorem dX10_narrow_5 : decode cX10_narrow 5 = .ok (.istore_n 2, 1) := by decide +kernel
theorem dX10_narrow_6 : decode cX10_narrow 6 = .ok (.iconst 0, 1) := by decide +kernel
theorem dX10_narrow_7 : decode cX10_narrow 7 = .ok (.istore_n 3, 1) := by decide +kernel
theorem dX10_narrow_8 : decode cX10_narrow 8 = .ok (.iload_n 3, 1) := by decide +kernel
theorem dX10_narrow_9 : decode cX10_narrow 9 = .ok (.bipush 12, 2) := by decide +kernel
theorem dX10_narrow_11 : decode cX10_narrow 11 = .ok (.if_icmp .ge 27, 3) := by decide +kernel
theorem dX10_narrow_14 : decode cX10_narrow 14 = .ok (.iload_n 2, 1) := by decide +kernel
theorem dX10_narrow_15 : decode cX10_narrow 15 = .ok (.ifCond .eq 15, 3) := by decide +kernel
theorem dX10_narrow_18 : decode cX10_narrow 18 = .ok (.aload_n 0, 1) := by decide +kernel
theorem dX10_narrow_19 : decode cX10_narrow 19 = .ok (.iload_n 3, 1) := by decide +kernel
theorem dX10_narrow_20 : decode cX10_narrow 20 = .ok (.invokevirtual 205, 3) := by decide +kernel
theorem dX10_narrow_23 : decode cX10_narrow 23 = .ok (.ifCond .eq 7, 3) := by decide +kernel
theorem dX10_narrow_26 : decode cX10_narrow 26 = .ok (.iconst 1, 1) := by decide +kernel
theorem dX10_narrow_27 : decode cX10_narrow 27 = .ok (.goto 4, 3) := by decide +kernel
theorem dX10_narrow_30 : decode cX10_narrow 30 = .ok (.iconst 0, 1) := by decide +kernel
theorem dX10_narrow_31 : decode cX10_narrow 31 = .ok (.istore_n 2, 1) := by decide +kernel
theorem dX10_narrow_32 : decode cX10_narrow 32 = .ok (.iinc 3 1, 3) := by decide +kernel
theorem dX10_narrow_35 : decode cX10_narrow 35 = .ok (.goto (-27), 3) := by decide +kernel
theorem dX10_narrow_38 : decode cX10_narrow 38 = .ok (.iload_n 2, 1) := by decide +kernel
theorem dX10_narrow_39 : decode cX10_narrow 39 = .ok (.istore_n 3, 1) := by decide +kernel
theorem dX10_narrow_40 : decode cX10_narrow 40 = .ok (.iload_n 3, 1) := by decide +kernel
theorem dX10_narrow_41 : decode cX10_narrow 41 = .ok (.ifCond .eq 108, 3) := by decide +kernel
theorem dX10_narrow_44 : decode cX10_narrow 44 = .ok (.iconst 0, 1) := by decide +kernel
theorem dX10_narrow_45 : decode cX10_narrow 45 = .ok (.istore_n 3, 1) := by decide +kernel
theorem dX10_narrow_46 : decode cX10_narrow 46 = .ok (.iconst 0, 1) := by decide +kernel
theorem dX10_narrow_47 : decode cX10_narrow 47 = .ok (.istore 4, 2) := by decide +kernel
theorem dX10_narrow_49 : decode cX10_narrow 49 = .ok (.iload 4, 2) := by decide +kernel
theorem dX10_narrow_51 : decode cX10_narrow 51 = .ok (.bipush 12, 2) := by decide +kernel
theorem dX10_narrow_53 : decode cX10_narrow 53 = .ok (.if_icmp .ge 93, 3) := by decide +kernel
theorem dX10_narrow_56 : decode cX10_narrow 56 = .ok (.iload_n 2, 1) := by decide +kernel
theorem dX10_narrow_57 : decode cX10_narrow 57 = .ok (.ifCond .eq 89, 3) := by decide +kernel
theorem dX10_narrow_60 : decode cX10_narrow 60 = .ok (.iconst 0, 1) := by decide +kernel
theorem dX10_narrow_61 : decode cX10_narrow 61 = .ok (.istore 5, 2) := by decide +kernel
theorem dX10_narrow_63 : decode cX10_narrow 63 = .ok (.iload 5, 2) := by decide +kernel
theorem dX10_narrow_65 : decode cX10_narrow 65 = .ok (.bipush 100, 2) := by decide +kernel
theorem dX10_narrow_67 : decode cX10_narrow 67 = .ok (.if_icmp .ge 73, 3) := by decide +kernel
theorem dX10_narrow_70 : decode cX10_narrow 70 = .ok (.aload_n 0, 1) := by decide +kernel
theorem dX10_narrow_71 : decode cX10_narrow 71 = .ok (.iload 4, 2) := by decide +kernel
theorem dX10_narrow_73 : decode cX10_narrow 73 = .ok (.invokevirtual 193, 3) := by decide +kernel
theorem dX10_narrow_76 : decode cX10_narrow 76 = .ok (.ifCond .eq 64, 3) := by decide +kernel
theorem dX10_narrow_79 : decode cX10_narrow 79 = .ok (.iload_n 2, 1) := by decide +kernel
theorem dX10_narrow_80 : decode cX10_narrow 80 = .ok (.ifCond .eq 60, 3) := by decide +kernel
theorem dX10_narrow_83 : decode cX10_narrow 83 = .ok (.aload_n 0, 1) := by decide +kernel
theorem dX10_narrow_84 : decode cX10_narrow 84 = .ok (.getfield 62, 3) := by decide +kernel
theorem dX10_narrow_87 : decode cX10_narrow 87 = .ok (.bipush 100, 2) := by decide +kernel
theorem dX10_narrow_89 : decode cX10_narrow 89 = .ok (.iload 4, 2) := by decide +kernel
theorem dX10_narrow_91 : decode cX10_narrow 91 = .ok (.imul, 1) := by decide +kernel
theorem dX10_narrow_92 : decode cX10_narrow 92 = .ok (.iload 5, 2) := by decide +kernel
theorem dX10_narrow_94 : decode cX10_narrow 94 = .ok (.iadd, 1) := by decide +kernel
theorem dX10_narrow_95 : decode cX10_narrow 95 = .ok (.baload, 1) := by decide +kernel
theorem dX10_narrow_96 : decode cX10_narrow 96 = .ok (.ifCond .eq 38, 3) := by decide +kernel
theorem dX10_narrow_99 : decode cX10_narrow 99 = .ok (.aload_n 0, 1) := by decide +kernel
theorem dX10_narrow_100 : decode cX10_narrow 100 = .ok (.iload 4, 2) := by decide +kernel
theorem dX10_narrow_102 : decode cX10_narrow 102 = .ok (.iload 5, 2) := by decide +kernel
theorem dX10_narrow_104 : decode cX10_narrow 104 = .ok (.iload_n 1, 1) := by decide +kernel
theorem dX10_narrow_105 : decode cX10_narrow 105 = .ok (.invokevirtual 221, 3) := by decide +kernel
theorem dX10_narrow_108 : decode cX10_narrow 108 = .ok (.ifCond .ne 26, 3) := by decide +kernel
theorem dX10_narrow_111 : decode cX10_narrow 111 = .ok (.aload_n 0, 1) := by decide +kernel
theorem dX10_narrow_112 : decode cX10_narrow 112 = .ok (.getfield 62, 3) := by decide +kernel
theorem dX10_narrow_115 : decode cX10_narrow 115 = .ok (.bipush 100, 2) := by decide +kernel
theorem dX10_narrow_117 : decode cX10_narrow 117 = .ok (.iload 4, 2) := by decide +kernel
theorem dX10_narrow_119 : decode cX10_narrow 119 = .ok (.imul, 1) := by decide +kernel
theorem dX10_narrow_120 : decode cX10_narrow 120 = .ok (.iload 5, 2) := by decide +kernel
theorem dX10_narrow_122 : decode cX10_narrow 122 = .ok (.iadd, 1) := by decide +kernel
theorem dX10_narrow_123 : decode cX10_narrow 123 = .ok (.iconst 0, 1) := by decide +kernel
theorem dX10_narrow_124 : decode cX10_narrow 124 = .ok (.bastore, 1) := by decide +kernel
theorem dX10_narrow_125 : decode cX10_narrow 125 = .ok (.aload_n 0, 1) := by decide +kernel
theorem dX10_narrow_126 : decode cX10_narrow 126 = .ok (.iload 4, 2) := by decide +kernel
theorem dX10_narrow_128 : decode cX10_narrow 128 = .ok (.invokevirtual 205, 3) := by decide +kernel
theorem dX10_narrow_131 : decode cX10_narrow 131 = .ok (.istore_n 2, 1) := by decide +kernel
theorem dX10_narrow_132 : decode cX10_narrow 132 = .ok (.iload_n 2, 1) := by decide +kernel
theorem dX10_narrow_133 : decode cX10_narrow 133 = .ok (.istore_n 3, 1) := by decide +kernel
theorem dX10_narrow_134 : decode cX10_narrow 134 = .ok (.iinc 5 1, 3) := by decide +kernel
theorem dX10_narrow_137 : decode cX10_narrow 137 = .ok (.goto (-74), 3) := by decide +kernel
theorem dX10_narrow_140 : decode cX10_narrow 140 = .ok (.iinc 4 1, 3) := by decide +kernel
theorem dX10_narrow_143 : decode cX10_narrow 143 = .ok (.goto (-94), 3) := by decide +kernel
theorem dX10_narrow_146 : decode cX10_narrow 146 = .ok (.goto (-106), 3) := by decide +kernel
theorem dX10_narrow_149 : decode cX10_narrow 149 = .ok (.iconst 0, 1) := by decide +kernel
theorem dX10_narrow_150 : decode cX10_narrow 150 = .ok (.istore 4, 2) := by decide +kernel
theorem dX10_narrow_152 : decode cX10_narrow 152 = .ok (.iload 4, 2) := by decide +kernel
theorem dX10_narrow_154 : decode cX10_narrow 154 = .ok (.sipush 1200, 3) := by decide +kernel
theorem dX10_narrow_157 : decode cX10_narrow 157 = .ok (.if_icmp .ge 21, 3) := by decide +kernel
theorem dX10_narrow_160 : decode cX10_narrow 160 = .ok (.iload_n 2, 1) := by decide +kernel
theorem dX10_narrow_161 : decode cX10_narrow 161 = .ok (.ifCond .ne 17, 3) := by decide +kernel
theorem dX10_narrow_164 : decode cX10_narrow 164 = .ok (.aload_n 0, 1) := by decide +kernel
theorem dX10_narrow_165 : decode cX10_narrow 165 = .ok (.getfield 62, 3) := by decide +kernel
theorem dX10_narrow_168 : decode cX10_narrow 168 = .ok (.iload 4, 2) := by decide +kernel
theorem dX10_narrow_170 : decode cX10_narrow 170 = .ok (.iconst 0, 1) := by decide +kernel
theorem dX10_narrow_171 : decode cX10_narrow 171 = .ok (.bastore, 1) := by decide +kernel
theorem dX10_narrow_172 : decode cX10_narrow 172 = .ok (.iinc 4 1, 3) := by decide +kernel
theorem dX10_narrow_175 : decode cX10_narrow 175 = .ok (.goto (-23), 3) := by decide +kernel
theorem dX10_narrow_178 : decode cX10_narrow 178 = .ok (.iconst 0, 1) := by decide +kernel
theorem dX10_narrow_179 : decode cX10_narrow 179 = .ok (.istore 4, 2) := by decide +kernel
theorem dX10_narrow_181 : decode cX10_narrow 181 = .ok (.iload 4, 2) := by decide +kernel
theorem dX10_narrow_183 : decode cX10_narrow 183 = .ok (.bipush 12, 2) := by decide +kernel
theorem dX10_narrow_185 : decode cX10_narrow 185 = .ok (.if_icmp .ge 32, 3) := by decide +kernel
theorem dX10_narrow_188 : decode cX10_narrow 188 = .ok (.iload_n 2, 1) := by decide +kernel
theorem dX10_narrow_189 : decode cX10_narrow 189 = .ok (.ifCond .ne 28, 3) := by decide +kernel
theorem dX10_narrow_192 : decode cX10_narrow 192 = .ok (.aload_n 0, 1) := by decide +kernel
theorem dX10_narrow_193 : decode cX10_narrow 193 = .ok (.iload 4, 2) := by decide +kernel
theorem dX10_narrow_195 : decode cX10_narrow 195 = .ok (.invokevirtual 205, 3) := by decide +kernel
theorem dX10_narrow_198 : decode cX10_narrow 198 = .ok (.ifCond .eq 11, 3) := by decide +kernel
theorem dX10_narrow_201 : decode cX10_narrow 201 = .ok (.iload_n 2, 1) := by decide +kernel
theorem dX10_narrow_202 : decode cX10_narrow 202 = .ok (.ifCond .eq 7, 3) := by decide +kernel
theorem dX10_narrow_205 : decode cX10_narrow 205 = .ok (.iconst 1, 1) := by decide +kernel
theorem dX10_narrow_206 : decode cX10_narrow 206 = .ok (.goto 4, 3) := by decide +kernel
theorem dX10_narrow_209 : decode cX10_narrow 209 = .ok (.iconst 0, 1) := by decide +kernel
theorem dX10_narrow_210 : decode cX10_narrow 210 = .ok (.istore_n 2, 1) := by decide +kernel
theorem dX10_narrow_211 : decode cX10_narrow 211 = .ok (.iinc 4 1, 3) := by decide +kernel
theorem dX10_narrow_214 : decode cX10_narrow 214 = .ok (.goto (-33), 3) := by decide +kernel
theorem dX10_narrow_217 : decode cX10_narrow 217 = .ok (.return_, 1) := by decide +kernel
theorem dX10_leftMany_0 : decode cX10_leftMany 0 = .ok (.iconst 0, 1) := by decide +kernel
theorem dX10_leftMany_1 : decode cX10_leftMany 1 = .ok (.istore_n 2, 1) := by decide +kernel
theorem dX10_leftMany_2 : decode cX10_leftMany 2 = .ok (.iconst 0, 1) := by decide +kernel
theorem dX10_leftMany_3 : decode cX10_leftMany 3 = .ok (.istore_n 3, 1) := by decide +kernel
theorem dX10_leftMany_4 : decode cX10_leftMany 4 = .ok (.iload_n 3, 1) := by decide +kernel
theorem dX10_leftMany_5 : decode cX10_leftMany 5 = .ok (.bipush 100, 2) := by decide +kernel
theorem dX10_leftMany_7 : decode cX10_leftMany 7 = .ok (.if_icmp .ge 31, 3) := by decide +kernel
theorem dX10_leftMany_10 : decode cX10_leftMany 10 = .ok (.iload_n 2, 1) := by decide +kernel
theorem dX10_leftMany_11 : decode cX10_leftMany 11 = .ok (.aload_n 0, 1) := by decide +kernel
theorem dX10_leftMany_12 : decode cX10_leftMany 12 = .ok (.getfield 62, 3) := by decide +kernel
theorem dX10_leftMany_15 : decode cX10_leftMany 15 = .ok (.bipush 100, 2) := by decide +kernel
theorem dX10_leftMany_17 : decode cX10_leftMany 17 = .ok (.iload_n 1, 1) := by decide +kernel
theorem dX10_leftMany_18 : decode cX10_leftMany 18 = .ok (.imul, 1) := by decide +kernel
theorem dX10_leftMany_19 : decode cX10_leftMany 19 = .ok (.iload_n 3, 1) := by decide +kernel
theorem dX10_leftMany_20 : decode cX10_leftMany 20 = .ok (.iadd, 1) := by decide +kernel
theorem dX10_leftMany_21 : decode cX10_leftMany 21 = .ok (.baload, 1) := by decide +kernel
theorem dX10_leftMany_22 : decode cX10_leftMany 22 = .ok (.ifCond .eq 7, 3) := by decide +kernel
theorem dX10_leftMany_25 : decode cX10_leftMany 25 = .ok (.iconst 1, 1) := by decide +kernel
theorem dX10_leftMany_26 : decode cX10_leftMany 26 = .ok (.goto 4, 3) := by decide +kernel
theorem dX10_leftMany_29 : decode cX10_leftMany 29 = .ok (.iconst 0, 1) := by decide +kernel
theorem dX10_leftMany_30 : decode cX10_leftMany 30 = .ok (.iadd, 1) := by decide +kernel
theorem dX10_leftMany_31 : decode cX10_leftMany 31 = .ok (.istore_n 2, 1) := by decide +kernel
theorem dX10_leftMany_32 : decode cX10_leftMany 32 = .ok (.iinc 3 1, 3) := by decide +kernel
theorem dX10_leftMany_35 : decode cX10_leftMany 35 = .ok (.goto (-31), 3) := by decide +kernel
theorem dX10_leftMany_38 : decode cX10_leftMany 38 = .ok (.iload_n 2, 1) := by decide +kernel
theorem dX10_leftMany_39 : decode cX10_leftMany 39 = .ok (.ireturn, 1) := by decide +kernel
theorem dX10_left_0 : decode cX10_left 0 = .ok (.iload_n 2, 1) := by decide +kernel
theorem dX10_left_1 : decode cX10_left 1 = .ok (.iconst 0, 1) := by decide +kernel
