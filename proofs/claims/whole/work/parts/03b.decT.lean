/-! ===== printed by the kit: the code, decoded ===== -/
theorem dX12_in_0 : decode cX12_in 0 = .ok (.iload_n 0, 1) := by decide +kernel
theorem dX12_in_1 : decode cX12_in 1 = .ok (.iload_n 1, 1) := by decide +kernel
theorem dX12_in_2 : decode cX12_in 2 = .ok (.if_icmp .lt 12, 3) := by decide +kernel
theorem dX12_in_5 : decode cX12_in 5 = .ok (.iload_n 0, 1) := by decide +kernel
theorem dX12_in_6 : decode cX12_in 6 = .ok (.iload_n 2, 1) := by decide +kernel
theorem dX12_in_7 : decode cX12_in 7 = .ok (.if_icmp .gt 7, 3) := by decide +kernel
theorem dX12_in_10 : decode cX12_in 10 = .ok (.iconst 1, 1) := by decide +kernel
theorem dX12_in_11 : decode cX12_in 11 = .ok (.goto 4, 3) := by decide +kernel
theorem dX12_in_14 : decode cX12_in 14 = .ok (.iconst 0, 1) := by decide +kernel
theorem dX12_in_15 : decode cX12_in 15 = .ok (.ireturn, 1) := by decide +kernel
theorem dX12_has_0 : decode cX12_has 0 = .ok (.iload_n 0, 1) := by decide +kernel
theorem dX12_has_1 : decode cX12_has 1 = .ok (.iload_n 1, 1) := by decide +kernel
theorem dX12_has_2 : decode cX12_has 2 = .ok (.ishr, 1) := by decide +kernel
theorem dX12_has_3 : decode cX12_has 3 = .ok (.iconst 1, 1) := by decide +kernel
theorem dX12_has_4 : decode cX12_has 4 = .ok (.iand, 1) := by decide +kernel
theorem dX12_has_5 : decode cX12_has 5 = .ok (.iconst 1, 1) := by decide +kernel
theorem dX12_has_6 : decode cX12_has 6 = .ok (.if_icmp .ne 7, 3) := by decide +kernel
theorem dX12_has_9 : decode cX12_has 9 = .ok (.iconst 1, 1) := by decide +kernel
theorem dX12_has_10 : decode cX12_has 10 = .ok (.goto 4, 3) := by decide +kernel
theorem dX12_has_13 : decode cX12_has 13 = .ok (.iconst 0, 1) := by decide +kernel
theorem dX12_has_14 : decode cX12_has 14 = .ok (.ireturn, 1) := by decide +kernel
theorem dX12_init_0 : decode cX12_init 0 = .ok (.aload_n 0, 1) := by decide +kernel
theorem dX12_init_1 : decode cX12_init 1 = .ok (.invokespecial 3, 3) := by decide +kernel
theorem dX12_init_4 : decode cX12_init 4 = .ok (.aload_n 0, 1) := by decide +kernel
theorem dX12_init_5 : decode cX12_init 5 = .ok (.sipush 240, 3) := by decide +kernel
theorem dX12_init_8 : decode cX12_init 8 = .ok (.newarray .int, 2) := by decide +kernel
theorem dX12_init_10 : decode cX12_init 10 = .ok (.putfield 9, 3) := by decide +kernel
theorem dX12_init_13 : decode cX12_init 13 = .ok (.aload_n 0, 1) := by decide +kernel
theorem dX12_init_14 : decode cX12_init 14 = .ok (.sipush 2600, 3) := by decide +kernel
theorem dX12_init_17 : decode cX12_init 17 = .ok (.newarray .int, 2) := by decide +kernel
theorem dX12_init_19 : decode cX12_init 19 = .ok (.putfield 13, 3) := by decide +kernel
theorem dX12_init_22 : decode cX12_init 22 = .ok (.aload_n 0, 1) := by decide +kernel
theorem dX12_init_23 : decode cX12_init 23 = .ok (.sipush 2600, 3) := by decide +kernel
theorem dX12_init_26 : decode cX12_init 26 = .ok (.newarray .int, 2) := by decide +kernel
theorem dX12_init_28 : decode cX12_init 28 = .ok (.putfield 16, 3) := by decide +kernel
theorem dX12_init_31 : decode cX12_init 31 = .ok (.aload_n 0, 1) := by decide +kernel
theorem dX12_init_32 : decode cX12_init 32 = .ok (.iconst 5, 1) := by decide +kernel
theorem dX12_init_33 : decode cX12_init 33 = .ok (.newarray .int, 2) := by decide +kernel
theorem dX12_init_35 : decode cX12_init 35 = .ok (.putfield 19, 3) := by decide +kernel
theorem dX12_init_38 : decode cX12_init 38 = .ok (.aload_n 0, 1) := by decide +kernel
theorem dX12_init_39 : decode cX12_init 39 = .ok (.iconst 5, 1) := by decide +kernel
theorem dX12_init_40 : decode cX12_init 40 = .ok (.newarray .int, 2) := by decide +kernel
theorem dX12_init_42 : decode cX12_init 42 = .ok (.putfield 22, 3) := by decide +kernel
theorem dX12_init_45 : decode cX12_init 45 = .ok (.aload_n 0, 1) := by decide +kernel
theorem dX12_init_46 : decode cX12_init 46 = .ok (.sipush 700, 3) := by decide +kernel
theorem dX12_init_49 : decode cX12_init 49 = .ok (.newarray .int, 2) := by decide +kernel
theorem dX12_init_51 : decode cX12_init 51 = .ok (.putfield 25, 3) := by decide +kernel
theorem dX12_init_54 : decode cX12_init 54 = .ok (.aload_n 0, 1) := by decide +kernel
theorem dX12_init_55 : decode cX12_init 55 = .ok (.sipush 700, 3) := by decide +kernel
theorem dX12_init_58 : decode cX12_init 58 = .ok (.newarray .int, 2) := by decide +kernel
theorem dX12_init_60 : decode cX12_init 60 = .ok (.putfield 28, 3) := by decide +kernel
theorem dX12_init_63 : decode cX12_init 63 = .ok (.aload_n 0, 1) := by decide +kernel
theorem dX12_init_64 : decode cX12_init 64 = .ok (.sipush 700, 3) := by decide +kernel
theorem dX12_init_67 : decode cX12_init 67 = .ok (.newarray .int, 2) := by decide +kernel
theorem dX12_init_69 : decode cX12_init 69 = .ok (.putfield 31, 3) := by decide +kernel
theorem dX12_init_72 : decode cX12_init 72 = .ok (.aload_n 0, 1) := by decide +kernel
theorem dX12_init_73 : decode cX12_init 73 = .ok (.iconst 5, 1) := by decide +kernel
theorem dX12_init_74 : decode cX12_init 74 = .ok (.newarray .int, 2) := by decide +kernel
theorem dX12_init_76 : decode cX12_init 76 = .ok (.putfield 34, 3) := by decide +kernel
theorem dX12_init_79 : decode cX12_init 79 = .ok (.aload_n 0, 1) := by decide +kernel
theorem dX12_init_80 : decode cX12_init 80 = .ok (.bipush 80, 2) := by decide +kernel
theorem dX12_init_82 : decode cX12_init 82 = .ok (.newarray .int, 2) := by decide +kernel
theorem dX12_init_84 : decode cX12_init 84 = .ok (.putfield 37, 3) := by decide +kernel
theorem dX12_init_87 : decode cX12_init 87 = .ok (.aload_n 0, 1) := by decide +kernel
theorem dX12_init_88 : decode cX12_init 88 = .ok (.iconst 4, 1) := by decide +kernel
theorem dX12_init_89 : decode cX12_init 89 = .ok (.newarray .int, 2) := by decide +kernel
theorem dX12_init_91 : decode cX12_init 91 = .ok (.putfield 40, 3) := by decide +kernel
theorem dX12_init_94 : decode cX12_init 94 = .ok (.aload_n 0, 1) := by decide +kernel
theorem dX12_init_95 : decode cX12_init 95 = .ok (.bipush 72, 2) := by decide +kernel
theorem dX12_init_97 : decode cX12_init 97 = .ok (.newarray .int, 2) := by decide +kernel
theorem dX12_init_99 : decode cX12_init 99 = .ok (.putfield 43, 3) := by decide +kernel
theorem dX12_init_102 : decode cX12_init 102 = .ok (.aload_n 0, 1) := by decide +kernel
theorem dX12_init_103 : decode cX12_init 103 = .ok (.bipush 24, 2) := by decide +kernel
theorem dX12_init_105 : decode cX12_init 105 = .ok (.newarray .int, 2) := by decide +kernel
theorem dX12_init_107 : decode cX12_init 107 = .ok (.putfield 46, 3) := by decide +kernel
theorem dX12_init_110 : decode cX12_init 110 = .ok (.aload_n 0, 1) := by decide +kernel
theorem dX12_init_111 : decode cX12_init 111 = .ok (.iconst 4, 1) := by decide +kernel
theorem dX12_init_112 : decode cX12_init 112 = .ok (.newarray .int, 2) := by decide +kernel
theorem dX12_init_114 : decode cX12_init 114 = .ok (.putfield 49, 3) := by decide +kernel
theorem dX12_init_117 : decode cX12_init 117 = .ok (.aload_n 0, 1) := by decide +kernel
theorem dX12_init_118 : decode cX12_init 118 = .ok (.iconst 4, 1) := by decide +kernel
theorem dX12_init_119 : decode cX12_init 119 = .ok (.newarray .int, 2) := by decide +kernel
theorem dX12_init_121 : decode cX12_init 121 = .ok (.putfield 52, 3) := by decide +kernel
theorem dX12_init_124 : decode cX12_init 124 = .ok (.aload_n 0, 1) := by decide +kernel
theorem dX12_init_125 : decode cX12_init 125 = .ok (.bipush 24, 2) := by decide +kernel
theorem dX12_init_127 : decode cX12_init 127 = .ok (.newarray .int, 2) := by decide +kernel
theorem dX12_init_129 : decode cX12_init 129 = .ok (.putfield 55, 3) := by decide +kernel
theorem dX12_init_132 : decode cX12_init 132 = .ok (.aload_n 0, 1) := by decide +kernel
theorem dX12_init_133 : decode cX12_init 133 = .ok (.sipush 320, 3) := by decide +kernel
theorem dX12_init_136 : decode cX12_init 136 = .ok (.newarray .int, 2) := by decide +kernel
theorem dX12_init_138 : decode cX12_init 138 = .ok (.putfield 58, 3) := by decide +kernel
theorem dX12_init_141 : decode cX12_init 141 = .ok (.aload_n 0, 1) := by decide +kernel
theorem dX12_init_142 : decode cX12_init 142 = .ok (.iconst 4, 1) := by decide +kernel
theorem dX12_init_143 : decode cX12_init 143 = .ok (.newarray .int, 2) := by decide +kernel
theorem dX12_init_145 : decode cX12_init 145 = .ok (.putfield 61, 3) := by decide +kernel
theorem dX12_init_148 : decode cX12_init 148 = .ok (.aload_n 0, 1) := by decide +kernel
theorem dX12_init_149 : decode cX12_init 149 = .ok (.iconst 4, 1) := by decide +kernel
theorem dX12_init_150 : decode cX12_init 150 = .ok (.newarray .int, 2) := by decide +kernel
theorem dX12_init_152 : decode cX12_init 152 = .ok (.putfield 64, 3) := by decide +kernel
theorem dX12_init_155 : decode cX12_init 155 = .ok (.aload_n 0, 1) := by decide +kernel
theorem dX12_init_156 : decode cX12_init 156 = .ok (.iconst (-1), 1) := by decide +kernel
theorem dX12_init_157 : decode cX12_init 157 = .ok (.putfield 67, 3) := by decide +kernel
theorem dX12_init_160 : decode cX12_init 160 = .ok (.aload_n 0, 1) := by decide +kernel
theorem dX12_init_161 : decode cX12_init 161 = .ok (.sipush 12800, 3) := by decide +kernel
theorem dX12_init_164 : decode cX12_init 164 = .ok (.newarray .int, 2) := by decide +kernel
theorem dX12_init_166 : decode cX12_init 166 = .ok (.putfield 71, 3) := by decide +kernel
theorem dX12_init_169 : decode cX12_init 169 = .ok (.aload_n 0, 1) := by decide +kernel
theorem dX12_init_170 : decode cX12_init 170 = .ok (.bipush 8, 2) := by decide +kernel
theorem dX12_init_172 : decode cX12_init 172 = .ok (.newarray .int, 2) := by decide +kernel
theorem dX12_init_174 : decode cX12_init 174 = .ok (.putfield 74, 3) := by decide +kernel
theorem dX12_init_177 : decode cX12_init 177 = .ok (.aload_n 0, 1) := by decide +kernel
theorem dX12_init_178 : decode cX12_init 178 = .ok (.bipush 40, 2) := by decide +kernel
theorem dX12_init_180 : decode cX12_init 180 = .ok (.newarray .int, 2) := by decide +kernel
theorem dX12_init_182 : decode cX12_init 182 = .ok (.putfield 77, 3) := by decide +kernel
theorem dX12_init_185 : decode cX12_init 185 = .ok (.aload_n 0, 1) := by decide +kernel
theorem dX12_init_186 : decode cX12_init 186 = .ok (.bipush 8, 2) := by decide +kernel
theorem dX12_init_188 : decode cX12_init 188 = .ok (.newarray .int, 2) := by decide +kernel
theorem dX12_init_190 : decode cX12_init 190 = .ok (.putfield 80, 3) := by decide +kernel
theorem dX12_init_193 : decode cX12_init 193 = .ok (.aload_n 0, 1) := by decide +kernel
theorem dX12_init_194 : decode cX12_init 194 = .ok (.bipush 90, 2) := by decide +kernel
theorem dX12_init_196 : decode cX12_init 196 = .ok (.newarray .int, 2) := by decide +kernel
theorem dX12_init_198 : decode cX12_init 198 = .ok (.putfield 83, 3) := by decide +kernel
theorem dX12_init_201 : decode cX12_init 201 = .ok (.aload_n 0, 1) := by decide +kernel
theorem dX12_init_202 : decode cX12_init 202 = .ok (.bipush 90, 2) := by decide +kernel
theorem dX12_init_204 : decode cX12_init 204 = .ok (.newarray .int, 2) := by decide +kernel
theorem dX12_init_206 : decode cX12_init 206 = .ok (.putfield 86, 3) := by decide +kernel
theorem dX12_init_209 : decode cX12_init 209 = .ok (.aload_n 0, 1) := by decide +kernel
theorem dX12_init_210 : decode cX12_init 210 = .ok (.bipush 90, 2) := by decide +kernel
theorem dX12_init_212 : decode cX12_init 212 = .ok (.newarray .int, 2) := by decide +kernel
theorem dX12_init_214 : decode cX12_init 214 = .ok (.putfield 89, 3) := by decide +kernel
theorem dX12_init_217 : decode cX12_init 217 = .ok (.aload_n 0, 1) := by decide +kernel
theorem dX12_init_218 : decode cX12_init 218 = .ok (.bipush 6, 2) := by decide +kernel
theorem dX12_init_220 : decode cX12_init 220 = .ok (.newarray .int, 2) := by decide +kernel
theorem dX12_init_222 : decode cX12_init 222 = .ok (.putfield 92, 3) := by decide +kernel
theorem dX12_init_225 : decode cX12_init 225 = .ok (.aload_n 0, 1) := by decide +kernel
theorem dX12_init_226 : decode cX12_init 226 = .ok (.bipush 10, 2) := by decide +kernel
theorem dX12_init_228 : decode cX12_init 228 = .ok (.newarray .int, 2) := by decide +kernel
theorem dX12_init_230 : decode cX12_init 230 = .ok (.putfield 95, 3) := by decide +kernel
theorem dX12_init_233 : decode cX12_init 233 = .ok (.aload_n 0, 1) := by decide +kernel
theorem dX12_init_234 : decode cX12_init 234 = .ok (.bipush 10, 2) := by decide +kernel
theorem dX12_init_236 : decode cX12_init 236 = .ok (.newarray .int, 2) := by decide +kernel
theorem dX12_init_238 : decode cX12_init 238 = .ok (.putfield 98, 3) := by decide +kernel
theorem dX12_init_241 : decode cX12_init 241 = .ok (.aload_n 0, 1) := by decide +kernel
theorem dX12_init_242 : decode cX12_init 242 = .ok (.bipush 10, 2) := by decide +kernel
theorem dX12_init_244 : decode cX12_init 244 = .ok (.newarray .int, 2) := by decide +kernel
theorem dX12_init_246 : decode cX12_init 246 = .ok (.putfield 101, 3) := by decide +kernel
theorem dX12_init_249 : decode cX12_init 249 = .ok (.aload_n 0, 1) := by decide +kernel
theorem dX12_init_250 : decode cX12_init 250 = .ok (.bipush 10, 2) := by decide +kernel
theorem dX12_init_252 : decode cX12_init 252 = .ok (.newarray .int, 2) := by decide +kernel
theorem dX12_init_254 : decode cX12_init 254 = .ok (.putfield 104, 3) := by decide +kernel
theorem dX12_init_257 : decode cX12_init 257 = .ok (.aload_n 0, 1) := by decide +kernel
theorem dX12_init_258 : decode cX12_init 258 = .ok (.iconst 4, 1) := by decide +kernel
theorem dX12_init_259 : decode cX12_init 259 = .ok (.newarray .int, 2) := by decide +kernel
theorem dX12_init_261 : decode cX12_init 261 = .ok (.putfield 107, 3) := by decide +kernel
theorem dX12_init_264 : decode cX12_init 264 = .ok (.aload_n 0, 1) := by decide +kernel
theorem dX12_init_265 : decode cX12_init 265 = .ok (.bipush 32, 2) := by decide +kernel
theorem dX12_init_267 : decode cX12_init 267 = .ok (.newarray .int, 2) := by decide +kernel
theorem dX12_init_269 : decode cX12_init 269 = .ok (.putfield 110, 3) := by decide +kernel
theorem dX12_init_272 : decode cX12_init 272 = .ok (.aload_n 0, 1) := by decide +kernel
theorem dX12_init_273 : decode cX12_init 273 = .ok (.bipush 64, 2) := by decide +kernel
theorem dX12_init_275 : decode cX12_init 275 = .ok (.newarray .boolean, 2) := by decide +kernel
theorem dX12_init_277 : decode cX12_init 277 = .ok (.putfield 113, 3) := by decide +kernel
theorem dX12_init_280 : decode cX12_init 280 = .ok (.aload_n 0, 1) := by decide +kernel
theorem dX12_init_281 : decode cX12_init 281 = .ok (.bipush 64, 2) := by decide +kernel
theorem dX12_init_283 : decode cX12_init 283 = .ok (.newarray .boolean, 2) := by decide +kernel
theorem dX12_init_285 : decode cX12_init 285 = .ok (.putfield 117, 3) := by decide +kernel
theorem dX12_init_288 : decode cX12_init 288 = .ok (.aload_n 0, 1) := by decide +kernel
theorem dX12_init_289 : decode cX12_init 289 = .ok (.sipush 320, 3) := by decide +kernel
theorem dX12_init_292 : decode cX12_init 292 = .ok (.newarray .int, 2) := by decide +kernel
theorem dX12_init_294 : decode cX12_init 294 = .ok (.putfield 120, 3) := by decide +kernel
theorem dX12_init_297 : decode cX12_init 297 = .ok (.return_, 1) := by decide +kernel
theorem dX12_thrown_0 : decode cX12_thrown 0 = .ok (.aload_n 0, 1) := by decide +kernel
theorem dX12_thrown_1 : decode cX12_thrown 1 = .ok (.getfield 123, 3) := by decide +kernel
theorem dX12_thrown_4 : decode cX12_thrown 4 = .ok (.ireturn, 1) := by decide +kernel
theorem dX12_byteOf_0 : decode cX12_byteOf 0 = .ok (.iload 5, 2) := by decide +kernel
theorem dX12_byteOf_2 : decode cX12_byteOf 2 = .ok (.iconst 4, 1) := by decide +kernel
theorem dX12_byteOf_3 : decode cX12_byteOf 3 = .ok (.if_icmp .ge 7, 3) := by decide +kernel
theorem dX12_byteOf_6 : decode cX12_byteOf 6 = .ok (.iload_n 0, 1) := by decide +kernel
theorem dX12_byteOf_7 : decode cX12_byteOf 7 = .ok (.goto 38, 3) := by decide +kernel
theorem dX12_byteOf_10 : decode cX12_byteOf 10 = .ok (.iload 5, 2) := by decide +kernel
theorem dX12_byteOf_12 : decode cX12_byteOf 12 = .ok (.bipush 8, 2) := by decide +kernel
theorem dX12_byteOf_14 : decode cX12_byteOf 14 = .ok (.if_icmp .ge 7, 3) := by decide +kernel
theorem dX12_byteOf_17 : decode cX12_byteOf 17 = .ok (.iload_n 1, 1) := by decide +kernel
theorem dX12_byteOf_18 : decode cX12_byteOf 18 = .ok (.goto 27, 3) := by decide +kernel
theorem dX12_byteOf_21 : decode cX12_byteOf 21 = .ok (.iload 5, 2) := by decide +kernel
theorem dX12_byteOf_23 : decode cX12_byteOf 23 = .ok (.bipush 12, 2) := by decide +kernel
theorem dX12_byteOf_25 : decode cX12_byteOf 25 = .ok (.if_icmp .ge 7, 3) := by decide +kernel
theorem dX12_byteOf_28 : decode cX12_byteOf 28 = .ok (.iload_n 2, 1) := by decide +kernel
theorem dX12_byteOf_29 : decode cX12_byteOf 29 = .ok (.goto 16, 3) := by decide +kernel
theorem dX12_byteOf_32 : decode cX12_byteOf 32 = .ok (.iload 5, 2) := by decide +kernel
theorem dX12_byteOf_34 : decode cX12_byteOf 34 = .ok (.bipush 16, 2) := by decide +kernel
theorem dX12_byteOf_36 : decode cX12_byteOf 36 = .ok (.if_icmp .ge 7, 3) := by decide +kernel
theorem dX12_byteOf_39 : decode cX12_byteOf 39 = .ok (.iload_n 3, 1) := by decide +kernel
theorem dX12_byteOf_40 : decode cX12_byteOf 40 = .ok (.goto 5, 3) := by decide +kernel
theorem dX12_byteOf_43 : decode cX12_byteOf 43 = .ok (.iload 4, 2) := by decide +kernel
theorem dX12_byteOf_45 : decode cX12_byteOf 45 = .ok (.istore 6, 2) := by decide +kernel
theorem dX12_byteOf_47 : decode cX12_byteOf 47 = .ok (.iload 6, 2) := by decide +kernel
theorem dX12_byteOf_49 : decode cX12_byteOf 49 = .ok (.bipush 24, 2) := by decide +kernel
theorem dX12_byteOf_51 : decode cX12_byteOf 51 = .ok (.bipush 8, 2) := by decide +kernel
theorem dX12_byteOf_53 : decode cX12_byteOf 53 = .ok (.iload 5, 2) := by decide +kernel
theorem dX12_byteOf_55 : decode cX12_byteOf 55 = .ok (.iconst 4, 1) := by decide +kernel
theorem dX12_byteOf_56 : decode cX12_byteOf 56 = .ok (.irem, 1) := by decide +kernel
theorem dX12_byteOf_57 : decode cX12_byteOf 57 = .ok (.imul, 1) := by decide +kernel
theorem dX12_byteOf_58 : decode cX12_byteOf 58 = .ok (.isub, 1) := by decide +kernel
theorem dX12_byteOf_59 : decode cX12_byteOf 59 = .ok (.ishr, 1) := by decide +kernel
theorem dX12_byteOf_60 : decode cX12_byteOf 60 = .ok (.sipush 255, 3) := by decide +kernel
theorem dX12_byteOf_63 : decode cX12_byteOf 63 = .ok (.iand, 1) := by decide +kernel
theorem dX12_byteOf_64 : decode cX12_byteOf 64 = .ok (.ireturn, 1) := by decide +kernel
theorem dX12_feed_0 : decode cX12_feed 0 = .ok (.iconst 0, 1) := by decide +kernel
theorem dX12_feed_1 : decode cX12_feed 1 = .ok (.istore 6, 2) := by decide +kernel
theorem dX12_feed_3 : decode cX12_feed 3 = .ok (.iconst 0, 1) := by decide +kernel
theorem dX12_feed_4 : decode cX12_feed 4 = .ok (.istore 7, 2) := by decide +kernel
theorem dX12_feed_6 : decode cX12_feed 6 = .ok (.iload 7, 2) := by decide +kernel
theorem dX12_feed_8 : decode cX12_feed 8 = .ok (.bipush 20, 2) := by decide +kernel
theorem dX12_feed_10 : decode cX12_feed 10 = .ok (.if_icmp .ge 34, 3) := by decide +kernel
theorem dX12_feed_13 : decode cX12_feed 13 = .ok (.iload 6, 2) := by decide +kernel
theorem dX12_feed_15 : decode cX12_feed 15 = .ok (.iload_n 1, 1) := by decide +kernel
theorem dX12_feed_16 : decode cX12_feed 16 = .ok (.iload_n 2, 1) := by decide +kernel
theorem dX12_feed_17 : decode cX12_feed 17 = .ok (.iload_n 3, 1) := by decide +kernel
theorem dX12_feed_18 : decode cX12_feed 18 = .ok (.iload 4, 2) := by decide +kernel
theorem dX12_feed_20 : decode cX12_feed 20 = .ok (.iload 5, 2) := by decide +kernel
theorem dX12_feed_22 : decode cX12_feed 22 = .ok (.iload 7, 2) := by decide +kernel
theorem dX12_feed_24 : decode cX12_feed 24 = .ok (.invokestatic 126, 3) := by decide +kernel
theorem dX12_feed_27 : decode cX12_feed 27 = .ok (.ifCond .eq 7, 3) := by decide +kernel
theorem dX12_feed_30 : decode cX12_feed 30 = .ok (.iconst 1, 1) := by decide +kernel
theorem dX12_feed_31 : decode cX12_feed 31 = .ok (.goto 4, 3) := by decide +kernel
theorem dX12_feed_34 : decode cX12_feed 34 = .ok (.iconst 0, 1) := by decide +kernel
theorem dX12_feed_35 : decode cX12_feed 35 = .ok (.iadd, 1) := by decide +kernel
theorem dX12_feed_36 : decode cX12_feed 36 = .ok (.istore 6, 2) := by decide +kernel
theorem dX12_feed_38 : decode cX12_feed 38 = .ok (.iinc 7 1, 3) := by decide +kernel
theorem dX12_feed_41 : decode cX12_feed 41 = .ok (.goto (-35), 3) := by decide +kernel
theorem dX12_feed_44 : decode cX12_feed 44 = .ok (.aload_n 0, 1) := by decide +kernel
theorem dX12_feed_45 : decode cX12_feed 45 = .ok (.getfield 130, 3) := by decide +kernel
theorem dX12_feed_48 : decode cX12_feed 48 = .ok (.iload 6, 2) := by decide +kernel
theorem dX12_feed_50 : decode cX12_feed 50 = .ok (.iadd, 1) := by decide +kernel
theorem dX12_feed_51 : decode cX12_feed 51 = .ok (.sipush 240, 3) := by decide +kernel
theorem dX12_feed_54 : decode cX12_feed 54 = .ok (.if_icmp .le 5, 3) := by decide +kernel
theorem dX12_feed_57 : decode cX12_feed 57 = .ok (.iconst (-1), 1) := by decide +kernel
theorem dX12_feed_58 : decode cX12_feed 58 = .ok (.ireturn, 1) := by decide +kernel
theorem dX12_feed_59 : decode cX12_feed 59 = .ok (.iconst 0, 1) := by decide +kernel
theorem dX12_feed_60 : decode cX12_feed 60 = .ok (.istore 7, 2) := by decide +kernel
theorem dX12_feed_62 : decode cX12_feed 62 = .ok (.iload 7, 2) := by decide +kernel
theorem dX12_feed_64 : decode cX12_feed 64 = .ok (.bipush 20, 2) := by decide +kernel
theorem dX12_feed_66 : decode cX12_feed 66 = .ok (.if_icmp .ge 49, 3) := by decide +kernel
theorem dX12_feed_69 : decode cX12_feed 69 = .ok (.iload_n 1, 1) := by decide +kernel
theorem dX12_feed_70 : decode cX12_feed 70 = .ok (.iload_n 2, 1) := by decide +kernel
theorem dX12_feed_71 : decode cX12_feed 71 = .ok (.iload_n 3, 1) := by decide +kernel
theorem dX12_feed_72 : decode cX12_feed 72 = .ok (.iload 4, 2) := by decide +kernel
theorem dX12_feed_74 : decode cX12_feed 74 = .ok (.iload 5, 2) := by decide +kernel
theorem dX12_feed_76 : decode cX12_feed 76 = .ok (.iload 7, 2) := by decide +kernel
theorem dX12_feed_78 : decode cX12_feed 78 = .ok (.invokestatic 126, 3) := by decide +kernel
theorem dX12_feed_81 : decode cX12_feed 81 = .ok (.istore 8, 2) := by decide +kernel
theorem dX12_feed_83 : decode cX12_feed 83 = .ok (.iload 8, 2) := by decide +kernel
theorem dX12_feed_85 : decode cX12_feed 85 = .ok (.ifCond .eq 24, 3) := by decide +kernel
theorem dX12_feed_88 : decode cX12_feed 88 = .ok (.aload_n 0, 1) := by decide +kernel
theorem dX12_feed_89 : decode cX12_feed 89 = .ok (.getfield 9, 3) := by decide +kernel
theorem dX12_feed_92 : decode cX12_feed 92 = .ok (.aload_n 0, 1) := by decide +kernel
theorem dX12_feed_93 : decode cX12_feed 93 = .ok (.getfield 130, 3) := by decide +kernel
theorem dX12_feed_96 : decode cX12_feed 96 = .ok (.iload 8, 2) := by decide +kernel
theorem dX12_feed_98 : decode cX12_feed 98 = .ok (.iastore, 1) := by decide +kernel
theorem dX12_feed_99 : decode cX12_feed 99 = .ok (.aload_n 0, 1) := by decide +kernel
theorem dX12_feed_100 : decode cX12_feed 100 = .ok (.dup, 1) := by decide +kernel
theorem dX12_feed_101 : decode cX12_feed 101 = .ok (.getfield 130, 3) := by decide +kernel
theorem dX12_feed_104 : decode cX12_feed 104 = .ok (.iconst 1, 1) := by decide +kernel
theorem dX12_feed_105 : decode cX12_feed 105 = .ok (.iadd, 1) := by decide +kernel
theorem dX12_feed_106 : decode cX12_feed 106 = .ok (.putfield 130, 3) := by decide +kernel
theorem dX12_feed_109 : decode cX12_feed 109 = .ok (.iinc 7 1, 3) := by decide +kernel
theorem dX12_feed_112 : decode cX12_feed 112 = .ok (.goto (-50), 3) := by decide +kernel
theorem dX12_feed_115 : decode cX12_feed 115 = .ok (.aload_n 0, 1) := by decide +kernel
theorem dX12_feed_116 : decode cX12_feed 116 = .ok (.getfield 130, 3) := by decide +kernel
theorem dX12_feed_119 : decode cX12_feed 119 = .ok (.ireturn, 1) := by decide +kernel
theorem dX12_end_0 : decode cX12_end 0 = .ok (.iload_n 1, 1) := by decide +kernel
theorem dX12_end_1 : decode cX12_end 1 = .ok (.ifCond .lt 11, 3) := by decide +kernel
theorem dX12_end_4 : decode cX12_end 4 = .ok (.iload_n 1, 1) := by decide +kernel
theorem dX12_end_5 : decode cX12_end 5 = .ok (.aload_n 0, 1) := by decide +kernel
theorem dX12_end_6 : decode cX12_end 6 = .ok (.getfield 130, 3) := by decide +kernel
theorem dX12_end_9 : decode cX12_end 9 = .ok (.if_icmp .le 5, 3) := by decide +kernel
theorem dX12_end_12 : decode cX12_end 12 = .ok (.iconst 0, 1) := by decide +kernel
theorem dX12_end_13 : decode cX12_end 13 = .ok (.ireturn, 1) := by decide +kernel
theorem dX12_end_14 : decode cX12_end 14 = .ok (.aload_n 0, 1) := by decide +kernel
theorem dX12_end_15 : decode cX12_end 15 = .ok (.iload_n 1, 1) := by decide +kernel
theorem dX12_end_16 : decode cX12_end 16 = .ok (.putfield 130, 3) := by decide +kernel
theorem dX12_end_19 : decode cX12_end 19 = .ok (.iconst 1, 1) := by decide +kernel
theorem dX12_end_20 : decode cX12_end 20 = .ok (.ireturn, 1) := by decide +kernel
theorem dX12_here_0 : decode cX12_here 0 = .ok (.aload_n 0, 1) := by decide +kernel
theorem dX12_here_1 : decode cX12_here 1 = .ok (.getfield 133, 3) := by decide +kernel
theorem dX12_here_4 : decode cX12_here 4 = .ok (.aload_n 0, 1) := by decide +kernel
theorem dX12_here_5 : decode cX12_here 5 = .ok (.getfield 130, 3) := by decide +kernel
theorem dX12_here_8 : decode cX12_here 8 = .ok (.if_icmp .ge 15, 3) := by decide +kernel
theorem dX12_here_11 : decode cX12_here 11 = .ok (.aload_n 0, 1) := by decide +kernel
theorem dX12_here_12 : decode cX12_here 12 = .ok (.getfield 9, 3) := by decide +kernel
theorem dX12_here_15 : decode cX12_here 15 = .ok (.aload_n 0, 1) := by decide +kernel
theorem dX12_here_16 : decode cX12_here 16 = .ok (.getfield 133, 3) := by decide +kernel
theorem dX12_here_19 : decode cX12_here 19 = .ok (.iaload, 1) := by decide +kernel
theorem dX12_here_20 : decode cX12_here 20 = .ok (.goto 4, 3) := by decide +kernel
theorem dX12_here_23 : decode cX12_here 23 = .ok (.iconst (-1), 1) := by decide +kernel
theorem dX12_here_24 : decode cX12_here 24 = .ok (.ireturn, 1) := by decide +kernel
theorem dX12_look_0 : decode cX12_look 0 = .ok (.aload_n 0, 1) := by decide +kernel
theorem dX12_look_1 : decode cX12_look 1 = .ok (.invokevirtual 136, 3) := by decide +kernel
theorem dX12_look_4 : decode cX12_look 4 = .ok (.bipush 32, 2) := by decide +kernel
theorem dX12_look_6 : decode cX12_look 6 = .ok (.if_icmp .ne 16, 3) := by decide +kernel
theorem dX12_look_9 : decode cX12_look 9 = .ok (.aload_n 0, 1) := by decide +kernel
theorem dX12_look_10 : decode cX12_look 10 = .ok (.dup, 1) := by decide +kernel
theorem dX12_look_11 : decode cX12_look 11 = .ok (.getfield 133, 3) := by decide +kernel
theorem dX12_look_14 : decode cX12_look 14 = .ok (.iconst 1, 1) := by decide +kernel
theorem dX12_look_15 : decode cX12_look 15 = .ok (.iadd, 1) := by decide +kernel
theorem dX12_look_16 : decode cX12_look 16 = .ok (.putfield 133, 3) := by decide +kernel
theorem dX12_look_19 : decode cX12_look 19 = .ok (.goto (-19), 3) := by decide +kernel
theorem dX12_look_22 : decode cX12_look 22 = .ok (.aload_n 0, 1) := by decide +kernel
theorem dX12_look_23 : decode cX12_look 23 = .ok (.invokevirtual 136, 3) := by decide +kernel
theorem dX12_look_26 : decode cX12_look 26 = .ok (.ireturn, 1) := by decide +kernel
theorem dX12_bad_0 : decode cX12_bad 0 = .ok (.aload_n 0, 1) := by decide +kernel
theorem dX12_bad_1 : decode cX12_bad 1 = .ok (.aload_n 0, 1) := by decide +kernel
theorem dX12_bad_2 : decode cX12_bad 2 = .ok (.getfield 140, 3) := by decide +kernel
theorem dX12_bad_5 : decode cX12_bad 5 = .ok (.iconst (-1), 1) := by decide +kernel
theorem dX12_bad_6 : decode cX12_bad 6 = .ok (.if_icmp .ne 10, 3) := by decide +kernel
theorem dX12_bad_9 : decode cX12_bad 9 = .ok (.aload_n 0, 1) := by decide +kernel
theorem dX12_bad_10 : decode cX12_bad 10 = .ok (.getfield 133, 3) := by decide +kernel
theorem dX12_bad_13 : decode cX12_bad 13 = .ok (.goto 7, 3) := by decide +kernel
theorem dX12_bad_16 : decode cX12_bad 16 = .ok (.aload_n 0, 1) := by decide +kernel
theorem dX12_bad_17 : decode cX12_bad 17 = .ok (.getfield 140, 3) := by decide +kernel
theorem dX12_bad_20 : decode cX12_bad 20 = .ok (.putfield 140, 3) := by decide +kernel
theorem dX12_bad_23 : decode cX12_bad 23 = .ok (.return_, 1) := by decide +kernel
theorem dX12_isDigit_0 : decode cX12_isDigit 0 = .ok (.iload_n 0, 1) := by decide +kernel
theorem dX12_isDigit_1 : decode cX12_isDigit 1 = .ok (.bipush 48, 2) := by decide +kernel
theorem dX12_isDigit_3 : decode cX12_isDigit 3 = .ok (.if_icmp .lt 13, 3) := by decide +kernel
theorem dX12_isDigit_6 : decode cX12_isDigit 6 = .ok (.iload_n 0, 1) := by decide +kernel
theorem dX12_isDigit_7 : decode cX12_isDigit 7 = .ok (.bipush 57, 2) := by decide +kernel
theorem dX12_isDigit_9 : decode cX12_isDigit 9 = .ok (.if_icmp .gt 7, 3) := by decide +kernel
theorem dX12_isDigit_12 : decode cX12_isDigit 12 = .ok (.iconst 1, 1) := by decide +kernel
theorem dX12_isDigit_13 : decode cX12_isDigit 13 = .ok (.goto 4, 3) := by decide +kernel
theorem dX12_isDigit_16 : decode cX12_isDigit 16 = .ok (.iconst 0, 1) := by decide +kernel
theorem dX12_isDigit_17 : decode cX12_isDigit 17 = .ok (.ireturn, 1) := by decide +kernel
theorem dX12_put_0 : decode cX12_put 0 = .ok (.aload_n 0, 1) := by decide +kernel
theorem dX12_put_1 : decode cX12_put 1 = .ok (.getfield 13, 3) := by decide +kernel
theorem dX12_put_4 : decode cX12_put 4 = .ok (.sipush 520, 3) := by decide +kernel
theorem dX12_put_7 : decode cX12_put 7 = .ok (.aload_n 0, 1) := by decide +kernel
theorem dX12_put_8 : decode cX12_put 8 = .ok (.getfield 143, 3) := by decide +kernel
theorem dX12_put_11 : decode cX12_put 11 = .ok (.imul, 1) := by decide +kernel
theorem dX12_put_12 : decode cX12_put 12 = .ok (.aload_n 0, 1) := by decide +kernel
theorem dX12_put_13 : decode cX12_put 13 = .ok (.getfield 19, 3) := by decide +kernel
theorem dX12_put_16 : decode cX12_put 16 = .ok (.aload_n 0, 1) := by decide +kernel
theorem dX12_put_17 : decode cX12_put 17 = .ok (.getfield 143, 3) := by decide +kernel
theorem dX12_put_20 : decode cX12_put 20 = .ok (.iaload, 1) := by decide +kernel
theorem dX12_put_21 : decode cX12_put 21 = .ok (.iadd, 1) := by decide +kernel
theorem dX12_put_22 : decode cX12_put 22 = .ok (.iload_n 1, 1) := by decide +kernel
theorem dX12_put_23 : decode cX12_put 23 = .ok (.iastore, 1) := by decide +kernel
theorem dX12_put_24 : decode cX12_put 24 = .ok (.aload_n 0, 1) := by decide +kernel
theorem dX12_put_25 : decode cX12_put 25 = .ok (.getfield 16, 3) := by decide +kernel
theorem dX12_put_28 : decode cX12_put 28 = .ok (.sipush 520, 3) := by decide +kernel
theorem dX12_put_31 : decode cX12_put 31 = .ok (.aload_n 0, 1) := by decide +kernel
theorem dX12_put_32 : decode cX12_put 32 = .ok (.getfield 143, 3) := by decide +kernel
theorem dX12_put_35 : decode cX12_put 35 = .ok (.imul, 1) := by decide +kernel
theorem dX12_put_36 : decode cX12_put 36 = .ok (.aload_n 0, 1) := by decide +kernel
theorem dX12_put_37 : decode cX12_put 37 = .ok (.getfield 19, 3) := by decide +kernel
theorem dX12_put_40 : decode cX12_put 40 = .ok (.aload_n 0, 1) := by decide +kernel
theorem dX12_put_41 : decode cX12_put 41 = .ok (.getfield 143, 3) := by decide +kernel
theorem dX12_put_44 : decode cX12_put 44 = .ok (.iaload, 1) := by decide +kernel
theorem dX12_put_45 : decode cX12_put 45 = .ok (.iadd, 1) := by decide +kernel
theorem dX12_put_46 : decode cX12_put 46 = .ok (.iload_n 2, 1) := by decide +kernel
theorem dX12_put_47 : decode cX12_put 47 = .ok (.iastore, 1) := by decide +kernel
theorem dX12_put_48 : decode cX12_put 48 = .ok (.aload_n 0, 1) := by decide +kernel
theorem dX12_put_49 : decode cX12_put 49 = .ok (.getfield 19, 3) := by decide +kernel
theorem dX12_put_52 : decode cX12_put 52 = .ok (.aload_n 0, 1) := by decide +kernel
theorem dX12_put_53 : decode cX12_put 53 = .ok (.getfield 143, 3) := by decide +kernel
theorem dX12_put_56 : decode cX12_put 56 = .ok (.dup2, 1) := by decide +kernel
theorem dX12_put_57 : decode cX12_put 57 = .ok (.iaload, 1) := by decide +kernel
theorem dX12_put_58 : decode cX12_put 58 = .ok (.iconst 1, 1) := by decide +kernel
theorem dX12_put_59 : decode cX12_put 59 = .ok (.iadd, 1) := by decide +kernel
theorem dX12_put_60 : decode cX12_put 60 = .ok (.iastore, 1) := by decide +kernel
theorem dX12_put_61 : decode cX12_put 61 = .ok (.return_, 1) := by decide +kernel
theorem dX12_letterOf_0 : decode cX12_letterOf 0 = .ok (.iload_n 0, 1) := by decide +kernel
theorem dX12_letterOf_1 : decode cX12_letterOf 1 = .ok (.bipush 99, 2) := by decide +kernel
theorem dX12_letterOf_3 : decode cX12_letterOf 3 = .ok (.if_icmp .ne 7, 3) := by decide +kernel
theorem dX12_letterOf_6 : decode cX12_letterOf 6 = .ok (.iconst 0, 1) := by decide +kernel
theorem dX12_letterOf_7 : decode cX12_letterOf 7 = .ok (.goto 44, 3) := by decide +kernel
theorem dX12_letterOf_10 : decode cX12_letterOf 10 = .ok (.iload_n 0, 1) := by decide +kernel
theorem dX12_letterOf_11 : decode cX12_letterOf 11 = .ok (.bipush 108, 2) := by decide +kernel
theorem dX12_letterOf_13 : decode cX12_letterOf 13 = .ok (.if_icmp .ne 7, 3) := by decide +kernel
theorem dX12_letterOf_16 : decode cX12_letterOf 16 = .ok (.iconst 1, 1) := by decide +kernel
theorem dX12_letterOf_17 : decode cX12_letterOf 17 = .ok (.goto 34, 3) := by decide +kernel
theorem dX12_letterOf_20 : decode cX12_letterOf 20 = .ok (.iload_n 0, 1) := by decide +kernel
theorem dX12_letterOf_21 : decode cX12_letterOf 21 = .ok (.bipush 97, 2) := by decide +kernel
theorem dX12_letterOf_23 : decode cX12_letterOf 23 = .ok (.if_icmp .ne 7, 3) := by decide +kernel
theorem dX12_letterOf_26 : decode cX12_letterOf 26 = .ok (.iconst 2, 1) := by decide +kernel
theorem dX12_letterOf_27 : decode cX12_letterOf 27 = .ok (.goto 24, 3) := by decide +kernel
theorem dX12_letterOf_30 : decode cX12_letterOf 30 = .ok (.iload_n 0, 1) := by decide +kernel
theorem dX12_letterOf_31 : decode cX12_letterOf 31 = .ok (.bipush 98, 2) := by decide +kernel
theorem dX12_letterOf_33 : decode cX12_letterOf 33 = .ok (.if_icmp .ne 7, 3) := by decide +kernel
theorem dX12_letterOf_36 : decode cX12_letterOf 36 = .ok (.iconst 3, 1) := by decide +kernel
theorem dX12_letterOf_37 : decode cX12_letterOf 37 = .ok (.goto 14, 3) := by decide +kernel
theorem dX12_letterOf_40 : decode cX12_letterOf 40 = .ok (.iload_n 0, 1) := by decide +kernel
theorem dX12_letterOf_41 : decode cX12_letterOf 41 = .ok (.bipush 103, 2) := by decide +kernel
theorem dX12_letterOf_43 : decode cX12_letterOf 43 = .ok (.if_icmp .ne 7, 3) := by decide +kernel
theorem dX12_letterOf_46 : decode cX12_letterOf 46 = .ok (.iconst 4, 1) := by decide +kernel
theorem dX12_letterOf_47 : decode cX12_letterOf 47 = .ok (.goto 4, 3) := by decide +kernel
theorem dX12_letterOf_50 : decode cX12_letterOf 50 = .ok (.iconst (-1), 1) := by decide +kernel
theorem dX12_letterOf_51 : decode cX12_letterOf 51 = .ok (.ireturn, 1) := by decide +kernel
theorem dX12_opens_0 : decode cX12_opens 0 = .ok (.aload_n 0, 1) := by decide +kernel
theorem dX12_opens_1 : decode cX12_opens 1 = .ok (.getfield 146, 3) := by decide +kernel
theorem dX12_opens_4 : decode cX12_opens 4 = .ok (.bipush 6, 2) := by decide +kernel
theorem dX12_opens_6 : decode cX12_opens 6 = .ok (.if_icmp .ne 7, 3) := by decide +kernel
theorem dX12_opens_9 : decode cX12_opens 9 = .ok (.aload_n 0, 1) := by decide +kernel
theorem dX12_opens_10 : decode cX12_opens 10 = .ok (.invokevirtual 149, 3) := by decide +kernel
theorem dX12_opens_13 : decode cX12_opens 13 = .ok (.aload_n 0, 1) := by decide +kernel
theorem dX12_opens_14 : decode cX12_opens 14 = .ok (.dup, 1) := by decide +kernel
theorem dX12_opens_15 : decode cX12_opens 15 = .ok (.getfield 146, 3) := by decide +kernel
theorem dX12_opens_18 : decode cX12_opens 18 = .ok (.iconst 1, 1) := by decide +kernel
theorem dX12_opens_19 : decode cX12_opens 19 = .ok (.iadd, 1) := by decide +kernel
theorem dX12_opens_20 : decode cX12_opens 20 = .ok (.putfield 146, 3) := by decide +kernel
theorem dX12_opens_23 : decode cX12_opens 23 = .ok (.aload_n 0, 1) := by decide +kernel
theorem dX12_opens_24 : decode cX12_opens 24 = .ok (.dup, 1) := by decide +kernel
theorem dX12_opens_25 : decode cX12_opens 25 = .ok (.getfield 133, 3) := by decide +kernel
theorem dX12_opens_28 : decode cX12_opens 28 = .ok (.iconst 1, 1) := by decide +kernel
theorem dX12_opens_29 : decode cX12_opens 29 = .ok (.iadd, 1) := by decide +kernel
theorem dX12_opens_30 : decode cX12_opens 30 = .ok (.putfield 133, 3) := by decide +kernel
theorem dX12_opens_33 : decode cX12_opens 33 = .ok (.return_, 1) := by decide +kernel
theorem dX12_closes_0 : decode cX12_closes 0 = .ok (.aload_n 0, 1) := by decide +kernel
theorem dX12_closes_1 : decode cX12_closes 1 = .ok (.getfield 140, 3) := by decide +kernel
theorem dX12_closes_4 : decode cX12_closes 4 = .ok (.iconst (-1), 1) := by decide +kernel
theorem dX12_closes_5 : decode cX12_closes 5 = .ok (.if_icmp .ne 15, 3) := by decide +kernel
theorem dX12_closes_8 : decode cX12_closes 8 = .ok (.aload_n 0, 1) := by decide +kernel
theorem dX12_closes_9 : decode cX12_closes 9 = .ok (.invokevirtual 152, 3) := by decide +kernel
theorem dX12_closes_12 : decode cX12_closes 12 = .ok (.iload_n 1, 1) := by decide +kernel
theorem dX12_closes_13 : decode cX12_closes 13 = .ok (.if_icmp .eq 7, 3) := by decide +kernel
theorem dX12_closes_16 : decode cX12_closes 16 = .ok (.aload_n 0, 1) := by decide +kernel
theorem dX12_closes_17 : decode cX12_closes 17 = .ok (.invokevirtual 149, 3) := by decide +kernel
theorem dX12_closes_20 : decode cX12_closes 20 = .ok (.aload_n 0, 1) := by decide +kernel
theorem dX12_closes_21 : decode cX12_closes 21 = .ok (.dup, 1) := by decide +kernel
theorem dX12_closes_22 : decode cX12_closes 22 = .ok (.getfield 133, 3) := by decide +kernel
theorem dX12_closes_25 : decode cX12_closes 25 = .ok (.iconst 1, 1) := by decide +kernel
theorem dX12_closes_26 : decode cX12_closes 26 = .ok (.iadd, 1) := by decide +kernel
theorem dX12_closes_27 : decode cX12_closes 27 = .ok (.putfield 133, 3) := by decide +kernel
theorem dX12_closes_30 : decode cX12_closes 30 = .ok (.aload_n 0, 1) := by decide +kernel
theorem dX12_closes_31 : decode cX12_closes 31 = .ok (.dup, 1) := by decide +kernel
theorem dX12_closes_32 : decode cX12_closes 32 = .ok (.getfield 146, 3) := by decide +kernel
theorem dX12_closes_35 : decode cX12_closes 35 = .ok (.iconst 1, 1) := by decide +kernel
theorem dX12_closes_36 : decode cX12_closes 36 = .ok (.isub, 1) := by decide +kernel
theorem dX12_closes_37 : decode cX12_closes 37 = .ok (.putfield 146, 3) := by decide +kernel
theorem dX12_closes_40 : decode cX12_closes 40 = .ok (.return_, 1) := by decide +kernel
theorem dX12_plainNumber_0 : decode cX12_plainNumber 0 = .ok (.iconst 0, 1) := by decide +kernel
theorem dX12_plainNumber_1 : decode cX12_plainNumber 1 = .ok (.istore_n 1, 1) := by decide +kernel
theorem dX12_plainNumber_2 : decode cX12_plainNumber 2 = .ok (.iconst 0, 1) := by decide +kernel
theorem dX12_plainNumber_3 : decode cX12_plainNumber 3 = .ok (.istore_n 2, 1) := by decide +kernel
theorem dX12_plainNumber_4 : decode cX12_plainNumber 4 = .ok (.iload_n 2, 1) := by decide +kernel
theorem dX12_plainNumber_5 : decode cX12_plainNumber 5 = .ok (.iconst 4, 1) := by decide +kernel
theorem dX12_plainNumber_6 : decode cX12_plainNumber 6 = .ok (.if_icmp .ge 42, 3) := by decide +kernel
theorem dX12_plainNumber_9 : decode cX12_plainNumber 9 = .ok (.aload_n 0, 1) := by decide +kernel
theorem dX12_plainNumber_10 : decode cX12_plainNumber 10 = .ok (.invokevirtual 136, 3) := by decide +kernel
theorem dX12_plainNumber_13 : decode cX12_plainNumber 13 = .ok (.invokestatic 155, 3) := by decide +kernel
theorem dX12_plainNumber_16 : decode cX12_plainNumber 16 = .ok (.ifCond .eq 32, 3) := by decide +kernel
theorem dX12_plainNumber_19 : decode cX12_plainNumber 19 = .ok (.bipush 10, 2) := by decide +kernel
theorem dX12_plainNumber_21 : decode cX12_plainNumber 21 = .ok (.iload_n 1, 1) := by decide +kernel
theorem dX12_plainNumber_22 : decode cX12_plainNumber 22 = .ok (.imul, 1) := by decide +kernel
theorem dX12_plainNumber_23 : decode cX12_plainNumber 23 = .ok (.aload_n 0, 1) := by decide +kernel
theorem dX12_plainNumber_24 : decode cX12_plainNumber 24 = .ok (.invokevirtual 136, 3) := by decide +kernel
theorem dX12_plainNumber_27 : decode cX12_plainNumber 27 = .ok (.iadd, 1) := by decide +kernel
theorem dX12_plainNumber_28 : decode cX12_plainNumber 28 = .ok (.bipush 48, 2) := by decide +kernel
theorem dX12_plainNumber_30 : decode cX12_plainNumber 30 = .ok (.isub, 1) := by decide +kernel
theorem dX12_plainNumber_31 : decode cX12_plainNumber 31 = .ok (.istore_n 1, 1) := by decide +kernel
theorem dX12_plainNumber_32 : decode cX12_plainNumber 32 = .ok (.aload_n 0, 1) := by decide +kernel
theorem dX12_plainNumber_33 : decode cX12_plainNumber 33 = .ok (.dup, 1) := by decide +kernel
theorem dX12_plainNumber_34 : decode cX12_plainNumber 34 = .ok (.getfield 133, 3) := by decide +kernel
theorem dX12_plainNumber_37 : decode cX12_plainNumber 37 = .ok (.iconst 1, 1) := by decide +kernel
theorem dX12_plainNumber_38 : decode cX12_plainNumber 38 = .ok (.iadd, 1) := by decide +kernel
theorem dX12_plainNumber_39 : decode cX12_plainNumber 39 = .ok (.putfield 133, 3) := by decide +kernel
theorem dX12_plainNumber_42 : decode cX12_plainNumber 42 = .ok (.iinc 2 1, 3) := by decide +kernel
theorem dX12_plainNumber_45 : decode cX12_plainNumber 45 = .ok (.goto (-41), 3) := by decide +kernel
theorem dX12_plainNumber_48 : decode cX12_plainNumber 48 = .ok (.aload_n 0, 1) := by decide +kernel
theorem dX12_plainNumber_49 : decode cX12_plainNumber 49 = .ok (.invokevirtual 136, 3) := by decide +kernel
theorem dX12_plainNumber_52 : decode cX12_plainNumber 52 = .ok (.invokestatic 155, 3) := by decide +kernel
theorem dX12_plainNumber_55 : decode cX12_plainNumber 55 = .ok (.ifCond .eq 7, 3) := by decide +kernel
theorem dX12_plainNumber_58 : decode cX12_plainNumber 58 = .ok (.aload_n 0, 1) := by decide +kernel
theorem dX12_plainNumber_59 : decode cX12_plainNumber 59 = .ok (.invokevirtual 149, 3) := by decide +kernel
theorem dX12_plainNumber_62 : decode cX12_plainNumber 62 = .ok (.iload_n 1, 1) := by decide +kernel
theorem dX12_plainNumber_63 : decode cX12_plainNumber 63 = .ok (.ireturn, 1) := by decide +kernel
theorem dX12_atom_0 : decode cX12_atom 0 = .ok (.aload_n 0, 1) := by decide +kernel
theorem dX12_atom_1 : decode cX12_atom 1 = .ok (.invokevirtual 152, 3) := by decide +kernel
theorem dX12_atom_4 : decode cX12_atom 4 = .ok (.istore_n 1, 1) := by decide +kernel
theorem dX12_atom_5 : decode cX12_atom 5 = .ok (.iload_n 1, 1) := by decide +kernel
theorem dX12_atom_6 : decode cX12_atom 6 = .ok (.invokestatic 155, 3) := by decide +kernel
theorem dX12_atom_9 : decode cX12_atom 9 = .ok (.ifCond .eq 15, 3) := by decide +kernel
theorem dX12_atom_12 : decode cX12_atom 12 = .ok (.aload_n 0, 1) := by decide +kernel
theorem dX12_atom_13 : decode cX12_atom 13 = .ok (.iconst 0, 1) := by decide +kernel
theorem dX12_atom_14 : decode cX12_atom 14 = .ok (.aload_n 0, 1) := by decide +kernel
theorem dX12_atom_15 : decode cX12_atom 15 = .ok (.invokevirtual 159, 3) := by decide +kernel
theorem dX12_atom_18 : decode cX12_atom 18 = .ok (.invokevirtual 162, 3) := by decide +kernel
theorem dX12_atom_21 : decode cX12_atom 21 = .ok (.goto 68, 3) := by decide +kernel
theorem dX12_atom_24 : decode cX12_atom 24 = .ok (.iload_n 1, 1) := by decide +kernel
theorem dX12_atom_25 : decode cX12_atom 25 = .ok (.invokestatic 166, 3) := by decide +kernel
theorem dX12_atom_28 : decode cX12_atom 28 = .ok (.iconst (-1), 1) := by decide +kernel
theorem dX12_atom_29 : decode cX12_atom 29 = .ok (.if_icmp .eq 25, 3) := by decide +kernel
theorem dX12_atom_32 : decode cX12_atom 32 = .ok (.aload_n 0, 1) := by decide +kernel
theorem dX12_atom_33 : decode cX12_atom 33 = .ok (.dup, 1) := by decide +kernel
theorem dX12_atom_34 : decode cX12_atom 34 = .ok (.getfield 133, 3) := by decide +kernel
theorem dX12_atom_37 : decode cX12_atom 37 = .ok (.iconst 1, 1) := by decide +kernel
theorem dX12_atom_38 : decode cX12_atom 38 = .ok (.iadd, 1) := by decide +kernel
theorem dX12_atom_39 : decode cX12_atom 39 = .ok (.putfield 133, 3) := by decide +kernel
theorem dX12_atom_42 : decode cX12_atom 42 = .ok (.aload_n 0, 1) := by decide +kernel
theorem dX12_atom_43 : decode cX12_atom 43 = .ok (.iconst 1, 1) := by decide +kernel
theorem dX12_atom_44 : decode cX12_atom 44 = .ok (.iload_n 1, 1) := by decide +kernel
theorem dX12_atom_45 : decode cX12_atom 45 = .ok (.invokestatic 166, 3) := by decide +kernel
theorem dX12_atom_48 : decode cX12_atom 48 = .ok (.invokevirtual 162, 3) := by decide +kernel
theorem dX12_atom_51 : decode cX12_atom 51 = .ok (.goto 38, 3) := by decide +kernel
theorem dX12_atom_54 : decode cX12_atom 54 = .ok (.iload_n 1, 1) := by decide +kernel
theorem dX12_atom_55 : decode cX12_atom 55 = .ok (.bipush 91, 2) := by decide +kernel
theorem dX12_atom_57 : decode cX12_atom 57 = .ok (.if_icmp .ne 28, 3) := by decide +kernel
theorem dX12_atom_60 : decode cX12_atom 60 = .ok (.aload_n 0, 1) := by decide +kernel
theorem dX12_atom_61 : decode cX12_atom 61 = .ok (.invokevirtual 170, 3) := by decide +kernel
theorem dX12_atom_64 : decode cX12_atom 64 = .ok (.aload_n 0, 1) := by decide +kernel
theorem dX12_atom_65 : decode cX12_atom 65 = .ok (.getfield 140, 3) := by decide +kernel
theorem dX12_atom_68 : decode cX12_atom 68 = .ok (.iconst (-1), 1) := by decide +kernel
theorem dX12_atom_69 : decode cX12_atom 69 = .ok (.if_icmp .ne 20, 3) := by decide +kernel
theorem dX12_atom_72 : decode cX12_atom 72 = .ok (.aload_n 0, 1) := by decide +kernel
theorem dX12_atom_73 : decode cX12_atom 73 = .ok (.invokevirtual 173, 3) := by decide +kernel
theorem dX12_atom_76 : decode cX12_atom 76 = .ok (.aload_n 0, 1) := by decide +kernel
theorem dX12_atom_77 : decode cX12_atom 77 = .ok (.bipush 93, 2) := by decide +kernel
theorem dX12_atom_79 : decode cX12_atom 79 = .ok (.invokevirtual 176, 3) := by decide +kernel
theorem dX12_atom_82 : decode cX12_atom 82 = .ok (.goto 7, 3) := by decide +kernel
theorem dX12_atom_85 : decode cX12_atom 85 = .ok (.aload_n 0, 1) := by decide +kernel
theorem dX12_atom_86 : decode cX12_atom 86 = .ok (.invokevirtual 149, 3) := by decide +kernel
theorem dX12_atom_89 : decode cX12_atom 89 = .ok (.return_, 1) := by decide +kernel
theorem dX12_term_0 : decode cX12_term 0 = .ok (.aload_n 0, 1) := by decide +kernel
theorem dX12_term_1 : decode cX12_term 1 = .ok (.invokevirtual 180, 3) := by decide +kernel
theorem dX12_term_4 : decode cX12_term 4 = .ok (.aload_n 0, 1) := by decide +kernel
theorem dX12_term_5 : decode cX12_term 5 = .ok (.getfield 140, 3) := by decide +kernel
theorem dX12_term_8 : decode cX12_term 8 = .ok (.iconst (-1), 1) := by decide +kernel
theorem dX12_term_9 : decode cX12_term 9 = .ok (.if_icmp .ne 10, 3) := by decide +kernel
theorem dX12_term_12 : decode cX12_term 12 = .ok (.aload_n 0, 1) := by decide +kernel
theorem dX12_term_13 : decode cX12_term 13 = .ok (.invokevirtual 152, 3) := by decide +kernel
theorem dX12_term_16 : decode cX12_term 16 = .ok (.goto 4, 3) := by decide +kernel
theorem dX12_term_19 : decode cX12_term 19 = .ok (.iconst (-1), 1) := by decide +kernel
theorem dX12_term_20 : decode cX12_term 20 = .ok (.istore_n 1, 1) := by decide +kernel
theorem dX12_term_21 : decode cX12_term 21 = .ok (.iload_n 1, 1) := by decide +kernel
theorem dX12_term_22 : decode cX12_term 22 = .ok (.bipush 42, 2) := by decide +kernel
theorem dX12_term_24 : decode cX12_term 24 = .ok (.if_icmp .eq 9, 3) := by decide +kernel
theorem dX12_term_27 : decode cX12_term 27 = .ok (.iload_n 1, 1) := by decide +kernel
theorem dX12_term_28 : decode cX12_term 28 = .ok (.bipush 47, 2) := by decide +kernel
theorem dX12_term_30 : decode cX12_term 30 = .ok (.if_icmp .ne 53, 3) := by decide +kernel
theorem dX12_term_33 : decode cX12_term 33 = .ok (.aload_n 0, 1) := by decide +kernel
theorem dX12_term_34 : decode cX12_term 34 = .ok (.dup, 1) := by decide +kernel
theorem dX12_term_35 : decode cX12_term 35 = .ok (.getfield 133, 3) := by decide +kernel
theorem dX12_term_38 : decode cX12_term 38 = .ok (.iconst 1, 1) := by decide +kernel
theorem dX12_term_39 : decode cX12_term 39 = .ok (.iadd, 1) := by decide +kernel
theorem dX12_term_40 : decode cX12_term 40 = .ok (.putfield 133, 3) := by decide +kernel
theorem dX12_term_43 : decode cX12_term 43 = .ok (.aload_n 0, 1) := by decide +kernel
theorem dX12_term_44 : decode cX12_term 44 = .ok (.invokevirtual 180, 3) := by decide +kernel
theorem dX12_term_47 : decode cX12_term 47 = .ok (.aload_n 0, 1) := by decide +kernel
theorem dX12_term_48 : decode cX12_term 48 = .ok (.iload_n 1, 1) := by decide +kernel
theorem dX12_term_49 : decode cX12_term 49 = .ok (.bipush 42, 2) := by decide +kernel
theorem dX12_term_51 : decode cX12_term 51 = .ok (.if_icmp .ne 7, 3) := by decide +kernel
theorem dX12_term_54 : decode cX12_term 54 = .ok (.iconst 4, 1) := by decide +kernel
theorem dX12_term_55 : decode cX12_term 55 = .ok (.goto 4, 3) := by decide +kernel
theorem dX12_term_58 : decode cX12_term 58 = .ok (.iconst 5, 1) := by decide +kernel
theorem dX12_term_59 : decode cX12_term 59 = .ok (.iconst 0, 1) := by decide +kernel
theorem dX12_term_60 : decode cX12_term 60 = .ok (.invokevirtual 162, 3) := by decide +kernel
theorem dX12_term_63 : decode cX12_term 63 = .ok (.aload_n 0, 1) := by decide +kernel
theorem dX12_term_64 : decode cX12_term 64 = .ok (.getfield 140, 3) := by decide +kernel
theorem dX12_term_67 : decode cX12_term 67 = .ok (.iconst (-1), 1) := by decide +kernel
theorem dX12_term_68 : decode cX12_term 68 = .ok (.if_icmp .ne 10, 3) := by decide +kernel
theorem dX12_term_71 : decode cX12_term 71 = .ok (.aload_n 0, 1) := by decide +kernel
theorem dX12_term_72 : decode cX12_term 72 = .ok (.invokevirtual 152, 3) := by decide +kernel
theorem dX12_term_75 : decode cX12_term 75 = .ok (.goto 4, 3) := by decide +kernel
theorem dX12_term_78 : decode cX12_term 78 = .ok (.iconst (-1), 1) := by decide +kernel
theorem dX12_term_79 : decode cX12_term 79 = .ok (.istore_n 1, 1) := by decide +kernel
theorem dX12_term_80 : decode cX12_term 80 = .ok (.goto (-59), 3) := by decide +kernel
theorem dX12_term_83 : decode cX12_term 83 = .ok (.return_, 1) := by decide +kernel
theorem dX12_sum_0 : decode cX12_sum 0 = .ok (.aload_n 0, 1) := by decide +kernel
theorem dX12_sum_1 : decode cX12_sum 1 = .ok (.invokevirtual 183, 3) := by decide +kernel
theorem dX12_sum_4 : decode cX12_sum 4 = .ok (.aload_n 0, 1) := by decide +kernel
theorem dX12_sum_5 : decode cX12_sum 5 = .ok (.getfield 140, 3) := by decide +kernel
theorem dX12_sum_8 : decode cX12_sum 8 = .ok (.iconst (-1), 1) := by decide +kernel
theorem dX12_sum_9 : decode cX12_sum 9 = .ok (.if_icmp .ne 10, 3) := by decide +kernel
theorem dX12_sum_12 : decode cX12_sum 12 = .ok (.aload_n 0, 1) := by decide +kernel
theorem dX12_sum_13 : decode cX12_sum 13 = .ok (.invokevirtual 152, 3) := by decide +kernel
theorem dX12_sum_16 : decode cX12_sum 16 = .ok (.goto 4, 3) := by decide +kernel
theorem dX12_sum_19 : decode cX12_sum 19 = .ok (.iconst (-1), 1) := by decide +kernel
theorem dX12_sum_20 : decode cX12_sum 20 = .ok (.istore_n 1, 1) := by decide +kernel
theorem dX12_sum_21 : decode cX12_sum 21 = .ok (.iload_n 1, 1) := by decide +kernel
theorem dX12_sum_22 : decode cX12_sum 22 = .ok (.bipush 43, 2) := by decide +kernel
theorem dX12_sum_24 : decode cX12_sum 24 = .ok (.if_icmp .eq 9, 3) := by decide +kernel
theorem dX12_sum_27 : decode cX12_sum 27 = .ok (.iload_n 1, 1) := by decide +kernel
theorem dX12_sum_28 : decode cX12_sum 28 = .ok (.bipush 45, 2) := by decide +kernel
theorem dX12_sum_30 : decode cX12_sum 30 = .ok (.if_icmp .ne 53, 3) := by decide +kernel
theorem dX12_sum_33 : decode cX12_sum 33 = .ok (.aload_n 0, 1) := by decide +kernel
theorem dX12_sum_34 : decode cX12_sum 34 = .ok (.dup, 1) := by decide +kernel
theorem dX12_sum_35 : decode cX12_sum 35 = .ok (.getfield 133, 3) := by decide +kernel
theorem dX12_sum_38 : decode cX12_sum 38 = .ok (.iconst 1, 1) := by decide +kernel
theorem dX12_sum_39 : decode cX12_sum 39 = .ok (.iadd, 1) := by decide +kernel
theorem dX12_sum_40 : decode cX12_sum 40 = .ok (.putfield 133, 3) := by decide +kernel
theorem dX12_sum_43 : decode cX12_sum 43 = .ok (.aload_n 0, 1) := by decide +kernel
theorem dX12_sum_44 : decode cX12_sum 44 = .ok (.invokevirtual 183, 3) := by decide +kernel
theorem dX12_sum_47 : decode cX12_sum 47 = .ok (.aload_n 0, 1) := by decide +kernel
theorem dX12_sum_48 : decode cX12_sum 48 = .ok (.iload_n 1, 1) := by decide +kernel
theorem dX12_sum_49 : decode cX12_sum 49 = .ok (.bipush 43, 2) := by decide +kernel
theorem dX12_sum_51 : decode cX12_sum 51 = .ok (.if_icmp .ne 7, 3) := by decide +kernel
theorem dX12_sum_54 : decode cX12_sum 54 = .ok (.iconst 2, 1) := by decide +kernel
theorem dX12_sum_55 : decode cX12_sum 55 = .ok (.goto 4, 3) := by decide +kernel
theorem dX12_sum_58 : decode cX12_sum 58 = .ok (.iconst 3, 1) := by decide +kernel
theorem dX12_sum_59 : decode cX12_sum 59 = .ok (.iconst 0, 1) := by decide +kernel
theorem dX12_sum_60 : decode cX12_sum 60 = .ok (.invokevirtual 162, 3) := by decide +kernel
theorem dX12_sum_63 : decode cX12_sum 63 = .ok (.aload_n 0, 1) := by decide +kernel
theorem dX12_sum_64 : decode cX12_sum 64 = .ok (.getfield 140, 3) := by decide +kernel
theorem dX12_sum_67 : decode cX12_sum 67 = .ok (.iconst (-1), 1) := by decide +kernel
theorem dX12_sum_68 : decode cX12_sum 68 = .ok (.if_icmp .ne 10, 3) := by decide +kernel
theorem dX12_sum_71 : decode cX12_sum 71 = .ok (.aload_n 0, 1) := by decide +kernel
theorem dX12_sum_72 : decode cX12_sum 72 = .ok (.invokevirtual 152, 3) := by decide +kernel
theorem dX12_sum_75 : decode cX12_sum 75 = .ok (.goto 4, 3) := by decide +kernel
theorem dX12_sum_78 : decode cX12_sum 78 = .ok (.iconst (-1), 1) := by decide +kernel
theorem dX12_sum_79 : decode cX12_sum 79 = .ok (.istore_n 1, 1) := by decide +kernel
theorem dX12_sum_80 : decode cX12_sum 80 = .ok (.goto (-59), 3) := by decide +kernel
theorem dX12_sum_83 : decode cX12_sum 83 = .ok (.return_, 1) := by decide +kernel
theorem dX12_isSign_0 : decode cX12_isSign 0 = .ok (.iload_n 0, 1) := by decide +kernel
theorem dX12_isSign_1 : decode cX12_isSign 1 = .ok (.bipush 61, 2) := by decide +kernel
theorem dX12_isSign_3 : decode cX12_isSign 3 = .ok (.if_icmp .eq 15, 3) := by decide +kernel
theorem dX12_isSign_6 : decode cX12_isSign 6 = .ok (.iload_n 0, 1) := by decide +kernel
theorem dX12_isSign_7 : decode cX12_isSign 7 = .ok (.bipush 60, 2) := by decide +kernel
theorem dX12_isSign_9 : decode cX12_isSign 9 = .ok (.if_icmp .eq 9, 3) := by decide +kernel
theorem dX12_isSign_12 : decode cX12_isSign 12 = .ok (.iload_n 0, 1) := by decide +kernel
theorem dX12_isSign_13 : decode cX12_isSign 13 = .ok (.bipush 62, 2) := by decide +kernel
theorem dX12_isSign_15 : decode cX12_isSign 15 = .ok (.if_icmp .ne 7, 3) := by decide +kernel
theorem dX12_isSign_18 : decode cX12_isSign 18 = .ok (.iconst 1, 1) := by decide +kernel
theorem dX12_isSign_19 : decode cX12_isSign 19 = .ok (.goto 4, 3) := by decide +kernel
theorem dX12_isSign_22 : decode cX12_isSign 22 = .ok (.iconst 0, 1) := by decide +kernel
theorem dX12_isSign_23 : decode cX12_isSign 23 = .ok (.ireturn, 1) := by decide +kernel
theorem dX12_compare_0 : decode cX12_compare 0 = .ok (.aload_n 0, 1) := by decide +kernel
theorem dX12_compare_1 : decode cX12_compare 1 = .ok (.getfield 140, 3) := by decide +kernel
theorem dX12_compare_4 : decode cX12_compare 4 = .ok (.iconst (-1), 1) := by decide +kernel
theorem dX12_compare_5 : decode cX12_compare 5 = .ok (.if_icmp .ne 10, 3) := by decide +kernel
theorem dX12_compare_8 : decode cX12_compare 8 = .ok (.aload_n 0, 1) := by decide +kernel
theorem dX12_compare_9 : decode cX12_compare 9 = .ok (.invokevirtual 152, 3) := by decide +kernel
theorem dX12_compare_12 : decode cX12_compare 12 = .ok (.goto 4, 3) := by decide +kernel
theorem dX12_compare_15 : decode cX12_compare 15 = .ok (.iconst (-1), 1) := by decide +kernel
theorem dX12_compare_16 : decode cX12_compare 16 = .ok (.istore_n 1, 1) := by decide +kernel
theorem dX12_compare_17 : decode cX12_compare 17 = .ok (.iload_n 1, 1) := by decide +kernel
theorem dX12_compare_18 : decode cX12_compare 18 = .ok (.invokestatic 186, 3) := by decide +kernel
theorem dX12_compare_21 : decode cX12_compare 21 = .ok (.ifCond .ne 8, 3) := by decide +kernel
theorem dX12_compare_24 : decode cX12_compare 24 = .ok (.aload_n 0, 1) := by decide +kernel
theorem dX12_compare_25 : decode cX12_compare 25 = .ok (.invokevirtual 149, 3) := by decide +kernel
theorem dX12_compare_28 : decode cX12_compare 28 = .ok (.return_, 1) := by decide +kernel
theorem dX12_compare_29 : decode cX12_compare 29 = .ok (.aload_n 0, 1) := by decide +kernel
theorem dX12_compare_30 : decode cX12_compare 30 = .ok (.dup, 1) := by decide +kernel
theorem dX12_compare_31 : decode cX12_compare 31 = .ok (.getfield 133, 3) := by decide +kernel
theorem dX12_compare_34 : decode cX12_compare 34 = .ok (.iconst 1, 1) := by decide +kernel
theorem dX12_compare_35 : decode cX12_compare 35 = .ok (.iadd, 1) := by decide +kernel
theorem dX12_compare_36 : decode cX12_compare 36 = .ok (.putfield 133, 3) := by decide +kernel
theorem dX12_compare_39 : decode cX12_compare 39 = .ok (.aload_n 0, 1) := by decide +kernel
theorem dX12_compare_40 : decode cX12_compare 40 = .ok (.invokevirtual 173, 3) := by decide +kernel
theorem dX12_compare_43 : decode cX12_compare 43 = .ok (.aload_n 0, 1) := by decide +kernel
theorem dX12_compare_44 : decode cX12_compare 44 = .ok (.iload_n 1, 1) := by decide +kernel
theorem dX12_compare_45 : decode cX12_compare 45 = .ok (.bipush 61, 2) := by decide +kernel
theorem dX12_compare_47 : decode cX12_compare 47 = .ok (.if_icmp .ne 8, 3) := by decide +kernel
theorem dX12_compare_50 : decode cX12_compare 50 = .ok (.bipush 6, 2) := by decide +kernel
theorem dX12_compare_52 : decode cX12_compare 52 = .ok (.goto 16, 3) := by decide +kernel
theorem dX12_compare_55 : decode cX12_compare 55 = .ok (.iload_n 1, 1) := by decide +kernel
theorem dX12_compare_56 : decode cX12_compare 56 = .ok (.bipush 60, 2) := by decide +kernel
theorem dX12_compare_58 : decode cX12_compare 58 = .ok (.if_icmp .ne 8, 3) := by decide +kernel
theorem dX12_compare_61 : decode cX12_compare 61 = .ok (.bipush 7, 2) := by decide +kernel
theorem dX12_compare_63 : decode cX12_compare 63 = .ok (.goto 5, 3) := by decide +kernel
theorem dX12_compare_66 : decode cX12_compare 66 = .ok (.bipush 8, 2) := by decide +kernel
theorem dX12_compare_68 : decode cX12_compare 68 = .ok (.iconst 0, 1) := by decide +kernel
theorem dX12_compare_69 : decode cX12_compare 69 = .ok (.invokevirtual 162, 3) := by decide +kernel
theorem dX12_compare_72 : decode cX12_compare 72 = .ok (.return_, 1) := by decide +kernel
theorem dX12_unit_0 : decode cX12_unit 0 = .ok (.aload_n 0, 1) := by decide +kernel
theorem dX12_unit_1 : decode cX12_unit 1 = .ok (.invokevirtual 152, 3) := by decide +kernel
theorem dX12_unit_4 : decode cX12_unit 4 = .ok (.istore_n 1, 1) := by decide +kernel
theorem dX12_unit_5 : decode cX12_unit 5 = .ok (.iload_n 1, 1) := by decide +kernel
theorem dX12_unit_6 : decode cX12_unit 6 = .ok (.bipush 33, 2) := by decide +kernel
theorem dX12_unit_8 : decode cX12_unit 8 = .ok (.if_icmp .ne 39, 3) := by decide +kernel
theorem dX12_unit_11 : decode cX12_unit 11 = .ok (.aload_n 0, 1) := by decide +kernel
theorem dX12_unit_12 : decode cX12_unit 12 = .ok (.invokevirtual 170, 3) := by decide +kernel
theorem dX12_unit_15 : decode cX12_unit 15 = .ok (.aload_n 0, 1) := by decide +kernel
theorem dX12_unit_16 : decode cX12_unit 16 = .ok (.getfield 140, 3) := by decide +kernel
theorem dX12_unit_19 : decode cX12_unit 19 = .ok (.iconst (-1), 1) := by decide +kernel
theorem dX12_unit_20 : decode cX12_unit 20 = .ok (.if_icmp .ne 74, 3) := by decide +kernel
theorem dX12_unit_23 : decode cX12_unit 23 = .ok (.aload_n 0, 1) := by decide +kernel
theorem dX12_unit_24 : decode cX12_unit 24 = .ok (.invokevirtual 189, 3) := by decide +kernel
theorem dX12_unit_27 : decode cX12_unit 27 = .ok (.aload_n 0, 1) := by decide +kernel
theorem dX12_unit_28 : decode cX12_unit 28 = .ok (.bipush 9, 2) := by decide +kernel
theorem dX12_unit_30 : decode cX12_unit 30 = .ok (.iconst 0, 1) := by decide +kernel
theorem dX12_unit_31 : decode cX12_unit 31 = .ok (.invokevirtual 162, 3) := by decide +kernel
theorem dX12_unit_34 : decode cX12_unit 34 = .ok (.aload_n 0, 1) := by decide +kernel
theorem dX12_unit_35 : decode cX12_unit 35 = .ok (.dup, 1) := by decide +kernel
theorem dX12_unit_36 : decode cX12_unit 36 = .ok (.getfield 146, 3) := by decide +kernel
theorem dX12_unit_39 : decode cX12_unit 39 = .ok (.iconst 1, 1) := by decide +kernel
theorem dX12_unit_40 : decode cX12_unit 40 = .ok (.isub, 1) := by decide +kernel
theorem dX12_unit_41 : decode cX12_unit 41 = .ok (.putfield 146, 3) := by decide +kernel
theorem dX12_unit_44 : decode cX12_unit 44 = .ok (.goto 50, 3) := by decide +kernel
theorem dX12_unit_47 : decode cX12_unit 47 = .ok (.iload_n 1, 1) := by decide +kernel
theorem dX12_unit_48 : decode cX12_unit 48 = .ok (.bipush 40, 2) := by decide +kernel
theorem dX12_unit_50 : decode cX12_unit 50 = .ok (.if_icmp .ne 28, 3) := by decide +kernel
theorem dX12_unit_53 : decode cX12_unit 53 = .ok (.aload_n 0, 1) := by decide +kernel
theorem dX12_unit_54 : decode cX12_unit 54 = .ok (.invokevirtual 170, 3) := by decide +kernel
theorem dX12_unit_57 : decode cX12_unit 57 = .ok (.aload_n 0, 1) := by decide +kernel
theorem dX12_unit_58 : decode cX12_unit 58 = .ok (.getfield 140, 3) := by decide +kernel
theorem dX12_unit_61 : decode cX12_unit 61 = .ok (.iconst (-1), 1) := by decide +kernel
theorem dX12_unit_62 : decode cX12_unit 62 = .ok (.if_icmp .ne 32, 3) := by decide +kernel
theorem dX12_unit_65 : decode cX12_unit 65 = .ok (.aload_n 0, 1) := by decide +kernel
theorem dX12_unit_66 : decode cX12_unit 66 = .ok (.invokevirtual 192, 3) := by decide +kernel
theorem dX12_unit_69 : decode cX12_unit 69 = .ok (.aload_n 0, 1) := by decide +kernel
theorem dX12_unit_70 : decode cX12_unit 70 = .ok (.bipush 41, 2) := by decide +kernel
theorem dX12_unit_72 : decode cX12_unit 72 = .ok (.invokevirtual 176, 3) := by decide +kernel
theorem dX12_unit_75 : decode cX12_unit 75 = .ok (.goto 19, 3) := by decide +kernel
theorem dX12_unit_78 : decode cX12_unit 78 = .ok (.aload_n 0, 1) := by decide +kernel
theorem dX12_unit_79 : decode cX12_unit 79 = .ok (.invokevirtual 173, 3) := by decide +kernel
theorem dX12_unit_82 : decode cX12_unit 82 = .ok (.aload_n 0, 1) := by decide +kernel
theorem dX12_unit_83 : decode cX12_unit 83 = .ok (.getfield 140, 3) := by decide +kernel
theorem dX12_unit_86 : decode cX12_unit 86 = .ok (.iconst (-1), 1) := by decide +kernel
theorem dX12_unit_87 : decode cX12_unit 87 = .ok (.if_icmp .ne 7, 3) := by decide +kernel
theorem dX12_unit_90 : decode cX12_unit 90 = .ok (.aload_n 0, 1) := by decide +kernel
theorem dX12_unit_91 : decode cX12_unit 91 = .ok (.invokevirtual 195, 3) := by decide +kernel
theorem dX12_unit_94 : decode cX12_unit 94 = .ok (.return_, 1) := by decide +kernel
theorem dX12_goOnAnd_0 : decode cX12_goOnAnd 0 = .ok (.aload_n 0, 1) := by decide +kernel
theorem dX12_goOnAnd_1 : decode cX12_goOnAnd 1 = .ok (.getfield 140, 3) := by decide +kernel
theorem dX12_goOnAnd_4 : decode cX12_goOnAnd 4 = .ok (.iconst (-1), 1) := by decide +kernel
theorem dX12_goOnAnd_5 : decode cX12_goOnAnd 5 = .ok (.if_icmp .ne 36, 3) := by decide +kernel
theorem dX12_goOnAnd_8 : decode cX12_goOnAnd 8 = .ok (.aload_n 0, 1) := by decide +kernel
theorem dX12_goOnAnd_9 : decode cX12_goOnAnd 9 = .ok (.invokevirtual 152, 3) := by decide +kernel
theorem dX12_goOnAnd_12 : decode cX12_goOnAnd 12 = .ok (.bipush 38, 2) := by decide +kernel
theorem dX12_goOnAnd_14 : decode cX12_goOnAnd 14 = .ok (.if_icmp .ne 27, 3) := by decide +kernel
theorem dX12_goOnAnd_17 : decode cX12_goOnAnd 17 = .ok (.aload_n 0, 1) := by decide +kernel
theorem dX12_goOnAnd_18 : decode cX12_goOnAnd 18 = .ok (.dup, 1) := by decide +kernel
theorem dX12_goOnAnd_19 : decode cX12_goOnAnd 19 = .ok (.getfield 133, 3) := by decide +kernel
theorem dX12_goOnAnd_22 : decode cX12_goOnAnd 22 = .ok (.iconst 1, 1) := by decide +kernel
theorem dX12_goOnAnd_23 : decode cX12_goOnAnd 23 = .ok (.iadd, 1) := by decide +kernel
theorem dX12_goOnAnd_24 : decode cX12_goOnAnd 24 = .ok (.putfield 133, 3) := by decide +kernel
theorem dX12_goOnAnd_27 : decode cX12_goOnAnd 27 = .ok (.aload_n 0, 1) := by decide +kernel
theorem dX12_goOnAnd_28 : decode cX12_goOnAnd 28 = .ok (.invokevirtual 189, 3) := by decide +kernel
theorem dX12_goOnAnd_31 : decode cX12_goOnAnd 31 = .ok (.aload_n 0, 1) := by decide +kernel
theorem dX12_goOnAnd_32 : decode cX12_goOnAnd 32 = .ok (.bipush 10, 2) := by decide +kernel
theorem dX12_goOnAnd_34 : decode cX12_goOnAnd 34 = .ok (.iconst 0, 1) := by decide +kernel
theorem dX12_goOnAnd_35 : decode cX12_goOnAnd 35 = .ok (.invokevirtual 162, 3) := by decide +kernel
theorem dX12_goOnAnd_38 : decode cX12_goOnAnd 38 = .ok (.goto (-38), 3) := by decide +kernel
theorem dX12_goOnAnd_41 : decode cX12_goOnAnd 41 = .ok (.return_, 1) := by decide +kernel
theorem dX12_goOnOr_0 : decode cX12_goOnOr 0 = .ok (.aload_n 0, 1) := by decide +kernel
theorem dX12_goOnOr_1 : decode cX12_goOnOr 1 = .ok (.getfield 140, 3) := by decide +kernel
theorem dX12_goOnOr_4 : decode cX12_goOnOr 4 = .ok (.iconst (-1), 1) := by decide +kernel
theorem dX12_goOnOr_5 : decode cX12_goOnOr 5 = .ok (.if_icmp .ne 40, 3) := by decide +kernel
theorem dX12_goOnOr_8 : decode cX12_goOnOr 8 = .ok (.aload_n 0, 1) := by decide +kernel
theorem dX12_goOnOr_9 : decode cX12_goOnOr 9 = .ok (.invokevirtual 152, 3) := by decide +kernel
theorem dX12_goOnOr_12 : decode cX12_goOnOr 12 = .ok (.bipush 124, 2) := by decide +kernel
theorem dX12_goOnOr_14 : decode cX12_goOnOr 14 = .ok (.if_icmp .ne 31, 3) := by decide +kernel
theorem dX12_goOnOr_17 : decode cX12_goOnOr 17 = .ok (.aload_n 0, 1) := by decide +kernel
theorem dX12_goOnOr_18 : decode cX12_goOnOr 18 = .ok (.dup, 1) := by decide +kernel
theorem dX12_goOnOr_19 : decode cX12_goOnOr 19 = .ok (.getfield 133, 3) := by decide +kernel
theorem dX12_goOnOr_22 : decode cX12_goOnOr 22 = .ok (.iconst 1, 1) := by decide +kernel
theorem dX12_goOnOr_23 : decode cX12_goOnOr 23 = .ok (.iadd, 1) := by decide +kernel
theorem dX12_goOnOr_24 : decode cX12_goOnOr 24 = .ok (.putfield 133, 3) := by decide +kernel
theorem dX12_goOnOr_27 : decode cX12_goOnOr 27 = .ok (.aload_n 0, 1) := by decide +kernel
theorem dX12_goOnOr_28 : decode cX12_goOnOr 28 = .ok (.invokevirtual 189, 3) := by decide +kernel
theorem dX12_goOnOr_31 : decode cX12_goOnOr 31 = .ok (.aload_n 0, 1) := by decide +kernel
theorem dX12_goOnOr_32 : decode cX12_goOnOr 32 = .ok (.invokevirtual 198, 3) := by decide +kernel
theorem dX12_goOnOr_35 : decode cX12_goOnOr 35 = .ok (.aload_n 0, 1) := by decide +kernel
theorem dX12_goOnOr_36 : decode cX12_goOnOr 36 = .ok (.bipush 11, 2) := by decide +kernel
theorem dX12_goOnOr_38 : decode cX12_goOnOr 38 = .ok (.iconst 0, 1) := by decide +kernel
theorem dX12_goOnOr_39 : decode cX12_goOnOr 39 = .ok (.invokevirtual 162, 3) := by decide +kernel
theorem dX12_goOnOr_42 : decode cX12_goOnOr 42 = .ok (.goto (-42), 3) := by decide +kernel
theorem dX12_goOnOr_45 : decode cX12_goOnOr 45 = .ok (.return_, 1) := by decide +kernel
theorem dX12_condition_0 : decode cX12_condition 0 = .ok (.aload_n 0, 1) := by decide +kernel
theorem dX12_condition_1 : decode cX12_condition 1 = .ok (.invokevirtual 189, 3) := by decide +kernel
theorem dX12_condition_4 : decode cX12_condition 4 = .ok (.aload_n 0, 1) := by decide +kernel
theorem dX12_condition_5 : decode cX12_condition 5 = .ok (.invokevirtual 198, 3) := by decide +kernel
theorem dX12_condition_8 : decode cX12_condition 8 = .ok (.aload_n 0, 1) := by decide +kernel
theorem dX12_condition_9 : decode cX12_condition 9 = .ok (.invokevirtual 201, 3) := by decide +kernel
theorem dX12_condition_12 : decode cX12_condition 12 = .ok (.return_, 1) := by decide +kernel
theorem dX12_clause_0 : decode cX12_clause 0 = .ok (.sipush 140, 3) := by decide +kernel
theorem dX12_clause_3 : decode cX12_clause 3 = .ok (.aload_n 0, 1) := by decide +kernel
theorem dX12_clause_4 : decode cX12_clause 4 = .ok (.getfield 143, 3) := by decide +kernel
theorem dX12_clause_7 : decode cX12_clause 7 = .ok (.imul, 1) := by decide +kernel
theorem dX12_clause_8 : decode cX12_clause 8 = .ok (.aload_n 0, 1) := by decide +kernel
theorem dX12_clause_9 : decode cX12_clause 9 = .ok (.getfield 22, 3) := by decide +kernel
theorem dX12_clause_12 : decode cX12_clause 12 = .ok (.aload_n 0, 1) := by decide +kernel
theorem dX12_clause_13 : decode cX12_clause 13 = .ok (.getfield 143, 3) := by decide +kernel
theorem dX12_clause_16 : decode cX12_clause 16 = .ok (.iaload, 1) := by decide +kernel
theorem dX12_clause_17 : decode cX12_clause 17 = .ok (.iadd, 1) := by decide +kernel
theorem dX12_clause_18 : decode cX12_clause 18 = .ok (.istore_n 1, 1) := by decide +kernel
theorem dX12_clause_19 : decode cX12_clause 19 = .ok (.aload_n 0, 1) := by decide +kernel
theorem dX12_clause_20 : decode cX12_clause 20 = .ok (.getfield 140, 3) := by decide +kernel
theorem dX12_clause_23 : decode cX12_clause 23 = .ok (.iconst (-1), 1) := by decide +kernel
theorem dX12_clause_24 : decode cX12_clause 24 = .ok (.if_icmp .ne 16, 3) := by decide +kernel
theorem dX12_clause_27 : decode cX12_clause 27 = .ok (.aload_n 0, 1) := by decide +kernel
theorem dX12_clause_28 : decode cX12_clause 28 = .ok (.invokevirtual 152, 3) := by decide +kernel
theorem dX12_clause_31 : decode cX12_clause 31 = .ok (.bipush 121, 2) := by decide +kernel
theorem dX12_clause_33 : decode cX12_clause 33 = .ok (.if_icmp .eq 7, 3) := by decide +kernel
theorem dX12_clause_36 : decode cX12_clause 36 = .ok (.aload_n 0, 1) := by decide +kernel
theorem dX12_clause_37 : decode cX12_clause 37 = .ok (.invokevirtual 149, 3) := by decide +kernel
theorem dX12_clause_40 : decode cX12_clause 40 = .ok (.aload_n 0, 1) := by decide +kernel
theorem dX12_clause_41 : decode cX12_clause 41 = .ok (.dup, 1) := by decide +kernel
theorem dX12_clause_42 : decode cX12_clause 42 = .ok (.getfield 133, 3) := by decide +kernel
theorem dX12_clause_45 : decode cX12_clause 45 = .ok (.iconst 1, 1) := by decide +kernel
theorem dX12_clause_46 : decode cX12_clause 46 = .ok (.iadd, 1) := by decide +kernel
theorem dX12_clause_47 : decode cX12_clause 47 = .ok (.putfield 133, 3) := by decide +kernel
theorem dX12_clause_50 : decode cX12_clause 50 = .ok (.aload_n 0, 1) := by decide +kernel
theorem dX12_clause_51 : decode cX12_clause 51 = .ok (.getfield 140, 3) := by decide +kernel
theorem dX12_clause_54 : decode cX12_clause 54 = .ok (.iconst (-1), 1) := by decide +kernel
theorem dX12_clause_55 : decode cX12_clause 55 = .ok (.if_icmp .ne 16, 3) := by decide +kernel
theorem dX12_clause_58 : decode cX12_clause 58 = .ok (.aload_n 0, 1) := by decide +kernel
theorem dX12_clause_59 : decode cX12_clause 59 = .ok (.invokevirtual 152, 3) := by decide +kernel
theorem dX12_clause_62 : decode cX12_clause 62 = .ok (.bipush 58, 2) := by decide +kernel
theorem dX12_clause_64 : decode cX12_clause 64 = .ok (.if_icmp .eq 7, 3) := by decide +kernel
theorem dX12_clause_67 : decode cX12_clause 67 = .ok (.aload_n 0, 1) := by decide +kernel
theorem dX12_clause_68 : decode cX12_clause 68 = .ok (.invokevirtual 149, 3) := by decide +kernel
theorem dX12_clause_71 : decode cX12_clause 71 = .ok (.aload_n 0, 1) := by decide +kernel
theorem dX12_clause_72 : decode cX12_clause 72 = .ok (.dup, 1) := by decide +kernel
theorem dX12_clause_73 : decode cX12_clause 73 = .ok (.getfield 133, 3) := by decide +kernel
theorem dX12_clause_76 : decode cX12_clause 76 = .ok (.iconst 1, 1) := by decide +kernel
theorem dX12_clause_77 : decode cX12_clause 77 = .ok (.iadd, 1) := by decide +kernel
theorem dX12_clause_78 : decode cX12_clause 78 = .ok (.putfield 133, 3) := by decide +kernel
theorem dX12_clause_81 : decode cX12_clause 81 = .ok (.aload_n 0, 1) := by decide +kernel
theorem dX12_clause_82 : decode cX12_clause 82 = .ok (.getfield 140, 3) := by decide +kernel
theorem dX12_clause_85 : decode cX12_clause 85 = .ok (.iconst (-1), 1) := by decide +kernel
theorem dX12_clause_86 : decode cX12_clause 86 = .ok (.if_icmp .eq 4, 3) := by decide +kernel
theorem dX12_clause_89 : decode cX12_clause 89 = .ok (.return_, 1) := by decide +kernel
theorem dX12_clause_90 : decode cX12_clause 90 = .ok (.aload_n 0, 1) := by decide +kernel
theorem dX12_clause_91 : decode cX12_clause 91 = .ok (.getfield 25, 3) := by decide +kernel
theorem dX12_clause_94 : decode cX12_clause 94 = .ok (.iload_n 1, 1) := by decide +kernel
theorem dX12_clause_95 : decode cX12_clause 95 = .ok (.aload_n 0, 1) := by decide +kernel
theorem dX12_clause_96 : decode cX12_clause 96 = .ok (.getfield 19, 3) := by decide +kernel
theorem dX12_clause_99 : decode cX12_clause 99 = .ok (.aload_n 0, 1) := by decide +kernel
theorem dX12_clause_100 : decode cX12_clause 100 = .ok (.getfield 143, 3) := by decide +kernel
theorem dX12_clause_103 : decode cX12_clause 103 = .ok (.iaload, 1) := by decide +kernel
theorem dX12_clause_104 : decode cX12_clause 104 = .ok (.iastore, 1) := by decide +kernel
theorem dX12_clause_105 : decode cX12_clause 105 = .ok (.aload_n 0, 1) := by decide +kernel
theorem dX12_clause_106 : decode cX12_clause 106 = .ok (.invokevirtual 152, 3) := by decide +kernel
theorem dX12_clause_109 : decode cX12_clause 109 = .ok (.bipush 33, 2) := by decide +kernel
theorem dX12_clause_111 : decode cX12_clause 111 = .ok (.if_icmp .eq 12, 3) := by decide +kernel
theorem dX12_clause_114 : decode cX12_clause 114 = .ok (.aload_n 0, 1) := by decide +kernel
theorem dX12_clause_115 : decode cX12_clause 115 = .ok (.invokevirtual 152, 3) := by decide +kernel
theorem dX12_clause_118 : decode cX12_clause 118 = .ok (.bipush 40, 2) := by decide +kernel
theorem dX12_clause_120 : decode cX12_clause 120 = .ok (.if_icmp .ne 7, 3) := by decide +kernel
theorem dX12_clause_123 : decode cX12_clause 123 = .ok (.iconst 1, 1) := by decide +kernel
theorem dX12_clause_124 : decode cX12_clause 124 = .ok (.goto 4, 3) := by decide +kernel
theorem dX12_clause_127 : decode cX12_clause 127 = .ok (.iconst 0, 1) := by decide +kernel
theorem dX12_clause_128 : decode cX12_clause 128 = .ok (.istore_n 2, 1) := by decide +kernel
theorem dX12_clause_129 : decode cX12_clause 129 = .ok (.iload_n 2, 1) := by decide +kernel
theorem dX12_clause_130 : decode cX12_clause 130 = .ok (.ifCond .eq 10, 3) := by decide +kernel
theorem dX12_clause_133 : decode cX12_clause 133 = .ok (.aload_n 0, 1) := by decide +kernel
theorem dX12_clause_134 : decode cX12_clause 134 = .ok (.invokevirtual 192, 3) := by decide +kernel
theorem dX12_clause_137 : decode cX12_clause 137 = .ok (.goto 47, 3) := by decide +kernel
theorem dX12_clause_140 : decode cX12_clause 140 = .ok (.aload_n 0, 1) := by decide +kernel
theorem dX12_clause_141 : decode cX12_clause 141 = .ok (.invokevirtual 173, 3) := by decide +kernel
theorem dX12_clause_144 : decode cX12_clause 144 = .ok (.aload_n 0, 1) := by decide +kernel
theorem dX12_clause_145 : decode cX12_clause 145 = .ok (.getfield 140, 3) := by decide +kernel
theorem dX12_clause_148 : decode cX12_clause 148 = .ok (.iconst (-1), 1) := by decide +kernel
theorem dX12_clause_149 : decode cX12_clause 149 = .ok (.if_icmp .ne 17, 3) := by decide +kernel
theorem dX12_clause_152 : decode cX12_clause 152 = .ok (.aload_n 0, 1) := by decide +kernel
theorem dX12_clause_153 : decode cX12_clause 153 = .ok (.invokevirtual 152, 3) := by decide +kernel
theorem dX12_clause_156 : decode cX12_clause 156 = .ok (.invokestatic 186, 3) := by decide +kernel
theorem dX12_clause_159 : decode cX12_clause 159 = .ok (.ifCond .eq 7, 3) := by decide +kernel
theorem dX12_clause_162 : decode cX12_clause 162 = .ok (.iconst 1, 1) := by decide +kernel
theorem dX12_clause_163 : decode cX12_clause 163 = .ok (.goto 4, 3) := by decide +kernel
theorem dX12_clause_166 : decode cX12_clause 166 = .ok (.iconst 0, 1) := by decide +kernel
theorem dX12_clause_167 : decode cX12_clause 167 = .ok (.istore_n 2, 1) := by decide +kernel
theorem dX12_clause_168 : decode cX12_clause 168 = .ok (.iload_n 2, 1) := by decide +kernel
theorem dX12_clause_169 : decode cX12_clause 169 = .ok (.ifCond .eq 15, 3) := by decide +kernel
theorem dX12_clause_172 : decode cX12_clause 172 = .ok (.aload_n 0, 1) := by decide +kernel
theorem dX12_clause_173 : decode cX12_clause 173 = .ok (.invokevirtual 195, 3) := by decide +kernel
theorem dX12_clause_176 : decode cX12_clause 176 = .ok (.aload_n 0, 1) := by decide +kernel
theorem dX12_clause_177 : decode cX12_clause 177 = .ok (.invokevirtual 198, 3) := by decide +kernel
theorem dX12_clause_180 : decode cX12_clause 180 = .ok (.aload_n 0, 1) := by decide +kernel
theorem dX12_clause_181 : decode cX12_clause 181 = .ok (.invokevirtual 201, 3) := by decide +kernel
theorem dX12_clause_184 : decode cX12_clause 184 = .ok (.aload_n 0, 1) := by decide +kernel
theorem dX12_clause_185 : decode cX12_clause 185 = .ok (.getfield 28, 3) := by decide +kernel
theorem dX12_clause_188 : decode cX12_clause 188 = .ok (.iload_n 1, 1) := by decide +kernel
theorem dX12_clause_189 : decode cX12_clause 189 = .ok (.aload_n 0, 1) := by decide +kernel
theorem dX12_clause_190 : decode cX12_clause 190 = .ok (.getfield 25, 3) := by decide +kernel
theorem dX12_clause_193 : decode cX12_clause 193 = .ok (.iload_n 1, 1) := by decide +kernel
theorem dX12_clause_194 : decode cX12_clause 194 = .ok (.iaload, 1) := by decide +kernel
theorem dX12_clause_195 : decode cX12_clause 195 = .ok (.iastore, 1) := by decide +kernel
theorem dX12_clause_196 : decode cX12_clause 196 = .ok (.iload_n 2, 1) := by decide +kernel
theorem dX12_clause_197 : decode cX12_clause 197 = .ok (.ifCond .eq 54, 3) := by decide +kernel
theorem dX12_clause_200 : decode cX12_clause 200 = .ok (.aload_n 0, 1) := by decide +kernel
theorem dX12_clause_201 : decode cX12_clause 201 = .ok (.getfield 140, 3) := by decide +kernel
theorem dX12_clause_204 : decode cX12_clause 204 = .ok (.iconst (-1), 1) := by decide +kernel
theorem dX12_clause_205 : decode cX12_clause 205 = .ok (.if_icmp .ne 46, 3) := by decide +kernel
theorem dX12_clause_208 : decode cX12_clause 208 = .ok (.aload_n 0, 1) := by decide +kernel
theorem dX12_clause_209 : decode cX12_clause 209 = .ok (.invokevirtual 152, 3) := by decide +kernel
theorem dX12_clause_212 : decode cX12_clause 212 = .ok (.bipush 63, 2) := by decide +kernel
theorem dX12_clause_214 : decode cX12_clause 214 = .ok (.if_icmp .eq 8, 3) := by decide +kernel
theorem dX12_clause_217 : decode cX12_clause 217 = .ok (.aload_n 0, 1) := by decide +kernel
theorem dX12_clause_218 : decode cX12_clause 218 = .ok (.invokevirtual 149, 3) := by decide +kernel
theorem dX12_clause_221 : decode cX12_clause 221 = .ok (.return_, 1) := by decide +kernel
theorem dX12_clause_222 : decode cX12_clause 222 = .ok (.aload_n 0, 1) := by decide +kernel
theorem dX12_clause_223 : decode cX12_clause 223 = .ok (.dup, 1) := by decide +kernel
theorem dX12_clause_224 : decode cX12_clause 224 = .ok (.getfield 133, 3) := by decide +kernel
theorem dX12_clause_227 : decode cX12_clause 227 = .ok (.iconst 1, 1) := by decide +kernel
theorem dX12_clause_228 : decode cX12_clause 228 = .ok (.iadd, 1) := by decide +kernel
theorem dX12_clause_229 : decode cX12_clause 229 = .ok (.putfield 133, 3) := by decide +kernel
theorem dX12_clause_232 : decode cX12_clause 232 = .ok (.aload_n 0, 1) := by decide +kernel
theorem dX12_clause_233 : decode cX12_clause 233 = .ok (.getfield 28, 3) := by decide +kernel
theorem dX12_clause_236 : decode cX12_clause 236 = .ok (.iload_n 1, 1) := by decide +kernel
theorem dX12_clause_237 : decode cX12_clause 237 = .ok (.aload_n 0, 1) := by decide +kernel
theorem dX12_clause_238 : decode cX12_clause 238 = .ok (.getfield 19, 3) := by decide +kernel
theorem dX12_clause_241 : decode cX12_clause 241 = .ok (.aload_n 0, 1) := by decide +kernel
theorem dX12_clause_242 : decode cX12_clause 242 = .ok (.getfield 143, 3) := by decide +kernel
theorem dX12_clause_245 : decode cX12_clause 245 = .ok (.iaload, 1) := by decide +kernel
theorem dX12_clause_246 : decode cX12_clause 246 = .ok (.iastore, 1) := by decide +kernel
theorem dX12_clause_247 : decode cX12_clause 247 = .ok (.aload_n 0, 1) := by decide +kernel
theorem dX12_clause_248 : decode cX12_clause 248 = .ok (.invokevirtual 173, 3) := by decide +kernel
theorem dX12_clause_251 : decode cX12_clause 251 = .ok (.aload_n 0, 1) := by decide +kernel
theorem dX12_clause_252 : decode cX12_clause 252 = .ok (.getfield 31, 3) := by decide +kernel
theorem dX12_clause_255 : decode cX12_clause 255 = .ok (.iload_n 1, 1) := by decide +kernel
theorem dX12_clause_256 : decode cX12_clause 256 = .ok (.aload_n 0, 1) := by decide +kernel
theorem dX12_clause_257 : decode cX12_clause 257 = .ok (.getfield 19, 3) := by decide +kernel
theorem dX12_clause_260 : decode cX12_clause 260 = .ok (.aload_n 0, 1) := by decide +kernel
theorem dX12_clause_261 : decode cX12_clause 261 = .ok (.getfield 143, 3) := by decide +kernel
theorem dX12_clause_264 : decode cX12_clause 264 = .ok (.iaload, 1) := by decide +kernel
theorem dX12_clause_265 : decode cX12_clause 265 = .ok (.iastore, 1) := by decide +kernel
theorem dX12_clause_266 : decode cX12_clause 266 = .ok (.aload_n 0, 1) := by decide +kernel
theorem dX12_clause_267 : decode cX12_clause 267 = .ok (.getfield 22, 3) := by decide +kernel
theorem dX12_clause_270 : decode cX12_clause 270 = .ok (.aload_n 0, 1) := by decide +kernel
theorem dX12_clause_271 : decode cX12_clause 271 = .ok (.getfield 143, 3) := by decide +kernel
theorem dX12_clause_274 : decode cX12_clause 274 = .ok (.dup2, 1) := by decide +kernel
theorem dX12_clause_275 : decode cX12_clause 275 = .ok (.iaload, 1) := by decide +kernel
theorem dX12_clause_276 : decode cX12_clause 276 = .ok (.iconst 1, 1) := by decide +kernel
theorem dX12_clause_277 : decode cX12_clause 277 = .ok (.iadd, 1) := by decide +kernel
theorem dX12_clause_278 : decode cX12_clause 278 = .ok (.iastore, 1) := by decide +kernel
theorem dX12_clause_279 : decode cX12_clause 279 = .ok (.return_, 1) := by decide +kernel
theorem dX12_open_0 : decode cX12_open 0 = .ok (.aload_n 0, 1) := by decide +kernel
theorem dX12_open_1 : decode cX12_open 1 = .ok (.iload_n 1, 1) := by decide +kernel
theorem dX12_open_2 : decode cX12_open 2 = .ok (.putfield 143, 3) := by decide +kernel
theorem dX12_open_5 : decode cX12_open 5 = .ok (.aload_n 0, 1) := by decide +kernel
theorem dX12_open_6 : decode cX12_open 6 = .ok (.iconst 0, 1) := by decide +kernel
theorem dX12_open_7 : decode cX12_open 7 = .ok (.putfield 133, 3) := by decide +kernel
theorem dX12_open_10 : decode cX12_open 10 = .ok (.aload_n 0, 1) := by decide +kernel
theorem dX12_open_11 : decode cX12_open 11 = .ok (.iconst (-1), 1) := by decide +kernel
theorem dX12_open_12 : decode cX12_open 12 = .ok (.putfield 140, 3) := by decide +kernel
theorem dX12_open_15 : decode cX12_open 15 = .ok (.aload_n 0, 1) := by decide +kernel
theorem dX12_open_16 : decode cX12_open 16 = .ok (.iconst 0, 1) := by decide +kernel
theorem dX12_open_17 : decode cX12_open 17 = .ok (.putfield 146, 3) := by decide +kernel
theorem dX12_open_20 : decode cX12_open 20 = .ok (.aload_n 0, 1) := by decide +kernel
theorem dX12_open_21 : decode cX12_open 21 = .ok (.getfield 19, 3) := by decide +kernel
theorem dX12_open_24 : decode cX12_open 24 = .ok (.iload_n 1, 1) := by decide +kernel
theorem dX12_open_25 : decode cX12_open 25 = .ok (.iconst 0, 1) := by decide +kernel
theorem dX12_open_26 : decode cX12_open 26 = .ok (.iastore, 1) := by decide +kernel
theorem dX12_open_27 : decode cX12_open 27 = .ok (.aload_n 0, 1) := by decide +kernel
theorem dX12_open_28 : decode cX12_open 28 = .ok (.getfield 22, 3) := by decide +kernel
theorem dX12_open_31 : decode cX12_open 31 = .ok (.iload_n 1, 1) := by decide +kernel
theorem dX12_open_32 : decode cX12_open 32 = .ok (.iconst 0, 1) := by decide +kernel
theorem dX12_open_33 : decode cX12_open 33 = .ok (.iastore, 1) := by decide +kernel
theorem dX12_open_34 : decode cX12_open 34 = .ok (.return_, 1) := by decide +kernel
theorem dX12_atEnd_0 : decode cX12_atEnd 0 = .ok (.aload_n 0, 1) := by decide +kernel
theorem dX12_atEnd_1 : decode cX12_atEnd 1 = .ok (.getfield 140, 3) := by decide +kernel
theorem dX12_atEnd_4 : decode cX12_atEnd 4 = .ok (.iconst (-1), 1) := by decide +kernel
theorem dX12_atEnd_5 : decode cX12_atEnd 5 = .ok (.if_icmp .ne 15, 3) := by decide +kernel
theorem dX12_atEnd_8 : decode cX12_atEnd 8 = .ok (.aload_n 0, 1) := by decide +kernel
theorem dX12_atEnd_9 : decode cX12_atEnd 9 = .ok (.invokevirtual 152, 3) := by decide +kernel
theorem dX12_atEnd_12 : decode cX12_atEnd 12 = .ok (.iconst (-1), 1) := by decide +kernel
theorem dX12_atEnd_13 : decode cX12_atEnd 13 = .ok (.if_icmp .eq 7, 3) := by decide +kernel
theorem dX12_atEnd_16 : decode cX12_atEnd 16 = .ok (.aload_n 0, 1) := by decide +kernel
theorem dX12_atEnd_17 : decode cX12_atEnd 17 = .ok (.invokevirtual 149, 3) := by decide +kernel
theorem dX12_atEnd_20 : decode cX12_atEnd 20 = .ok (.aload_n 0, 1) := by decide +kernel
theorem dX12_atEnd_21 : decode cX12_atEnd 21 = .ok (.getfield 140, 3) := by decide +kernel
theorem dX12_atEnd_24 : decode cX12_atEnd 24 = .ok (.ireturn, 1) := by decide +kernel
theorem dX12_readLaw_0 : decode cX12_readLaw 0 = .ok (.aload_n 0, 1) := by decide +kernel
theorem dX12_readLaw_1 : decode cX12_readLaw 1 = .ok (.iload_n 1, 1) := by decide +kernel
theorem dX12_readLaw_2 : decode cX12_readLaw 2 = .ok (.invokevirtual 204, 3) := by decide +kernel
theorem dX12_readLaw_5 : decode cX12_readLaw 5 = .ok (.aload_n 0, 1) := by decide +kernel
theorem dX12_readLaw_6 : decode cX12_readLaw 6 = .ok (.invokevirtual 207, 3) := by decide +kernel
theorem dX12_readLaw_9 : decode cX12_readLaw 9 = .ok (.aload_n 0, 1) := by decide +kernel
theorem dX12_readLaw_10 : decode cX12_readLaw 10 = .ok (.getfield 140, 3) := by decide +kernel
theorem dX12_readLaw_13 : decode cX12_readLaw 13 = .ok (.iconst (-1), 1) := by decide +kernel
theorem dX12_readLaw_14 : decode cX12_readLaw 14 = .ok (.if_icmp .ne 29, 3) := by decide +kernel
theorem dX12_readLaw_17 : decode cX12_readLaw 17 = .ok (.aload_n 0, 1) := by decide +kernel
theorem dX12_readLaw_18 : decode cX12_readLaw 18 = .ok (.invokevirtual 152, 3) := by decide +kernel
theorem dX12_readLaw_21 : decode cX12_readLaw 21 = .ok (.bipush 59, 2) := by decide +kernel
theorem dX12_readLaw_23 : decode cX12_readLaw 23 = .ok (.if_icmp .ne 20, 3) := by decide +kernel
theorem dX12_readLaw_26 : decode cX12_readLaw 26 = .ok (.aload_n 0, 1) := by decide +kernel
theorem dX12_readLaw_27 : decode cX12_readLaw 27 = .ok (.dup, 1) := by decide +kernel
theorem dX12_readLaw_28 : decode cX12_readLaw 28 = .ok (.getfield 133, 3) := by decide +kernel
theorem dX12_readLaw_31 : decode cX12_readLaw 31 = .ok (.iconst 1, 1) := by decide +kernel
theorem dX12_readLaw_32 : decode cX12_readLaw 32 = .ok (.iadd, 1) := by decide +kernel
theorem dX12_readLaw_33 : decode cX12_readLaw 33 = .ok (.putfield 133, 3) := by decide +kernel
theorem dX12_readLaw_36 : decode cX12_readLaw 36 = .ok (.aload_n 0, 1) := by decide +kernel
theorem dX12_readLaw_37 : decode cX12_readLaw 37 = .ok (.invokevirtual 207, 3) := by decide +kernel
theorem dX12_readLaw_40 : decode cX12_readLaw 40 = .ok (.goto (-31), 3) := by decide +kernel
theorem dX12_readLaw_43 : decode cX12_readLaw 43 = .ok (.aload_n 0, 1) := by decide +kernel
theorem dX12_readLaw_44 : decode cX12_readLaw 44 = .ok (.invokevirtual 210, 3) := by decide +kernel
theorem dX12_readLaw_47 : decode cX12_readLaw 47 = .ok (.ireturn, 1) := by decide +kernel
theorem dX12_bounded_0 : decode cX12_bounded 0 = .ok (.ldc2_w 213, 3) := by decide +kernel
theorem dX12_bounded_3 : decode cX12_bounded 3 = .ok (.ldc2_w 215, 3) := by decide +kernel
theorem dX12_bounded_6 : decode cX12_bounded 6 = .ok (.lload_n 0, 1) := by decide +kernel
theorem dX12_bounded_7 : decode cX12_bounded 7 = .ok (.invokestatic 217, 3) := by decide +kernel
theorem dX12_bounded_10 : decode cX12_bounded 10 = .ok (.invokestatic 223, 3) := by decide +kernel
theorem dX12_bounded_13 : decode cX12_bounded 13 = .ok (.l2i, 1) := by decide +kernel
theorem dX12_bounded_14 : decode cX12_bounded 14 = .ok (.ireturn, 1) := by decide +kernel
theorem dX12_worked_0 : decode cX12_worked 0 = .ok (.iload_n 0, 1) := by decide +kernel
theorem dX12_worked_1 : decode cX12_worked 1 = .ok (.tableswitch 143 2 10 #[51, 58, 65, 72, 89, 101, 113, 143, 125], 51) := by decide +kernel
theorem dX12_worked_52 : decode cX12_worked 52 = .ok (.lload_n 1, 1) := by decide +kernel
theorem dX12_worked_53 : decode cX12_worked 53 = .ok (.lload_n 3, 1) := by decide +kernel
theorem dX12_worked_54 : decode cX12_worked 54 = .ok (.ladd, 1) := by decide +kernel
theorem dX12_worked_55 : decode cX12_worked 55 = .ok (.invokestatic 226, 3) := by decide +kernel
theorem dX12_worked_58 : decode cX12_worked 58 = .ok (.ireturn, 1) := by decide +kernel
theorem dX12_worked_59 : decode cX12_worked 59 = .ok (.lload_n 1, 1) := by decide +kernel
theorem dX12_worked_60 : decode cX12_worked 60 = .ok (.lload_n 3, 1) := by decide +kernel
theorem dX12_worked_61 : decode cX12_worked 61 = .ok (.lsub, 1) := by decide +kernel
theorem dX12_worked_62 : decode cX12_worked 62 = .ok (.invokestatic 226, 3) := by decide +kernel
theorem dX12_worked_65 : decode cX12_worked 65 = .ok (.ireturn, 1) := by decide +kernel
theorem dX12_worked_66 : decode cX12_worked 66 = .ok (.lload_n 1, 1) := by decide +kernel
theorem dX12_worked_67 : decode cX12_worked 67 = .ok (.lload_n 3, 1) := by decide +kernel
theorem dX12_worked_68 : decode cX12_worked 68 = .ok (.lmul, 1) := by decide +kernel
theorem dX12_worked_69 : decode cX12_worked 69 = .ok (.invokestatic 226, 3) := by decide +kernel
theorem dX12_worked_72 : decode cX12_worked 72 = .ok (.ireturn, 1) := by decide +kernel
theorem dX12_worked_73 : decode cX12_worked 73 = .ok (.lload_n 3, 1) := by decide +kernel
theorem dX12_worked_74 : decode cX12_worked 74 = .ok (.lconst 0, 1) := by decide +kernel
theorem dX12_worked_75 : decode cX12_worked 75 = .ok (.lcmp, 1) := by decide +kernel
theorem dX12_worked_76 : decode cX12_worked 76 = .ok (.ifCond .ne 7, 3) := by decide +kernel
theorem dX12_worked_79 : decode cX12_worked 79 = .ok (.iconst 0, 1) := by decide +kernel
theorem dX12_worked_80 : decode cX12_worked 80 = .ok (.goto 9, 3) := by decide +kernel
theorem dX12_worked_83 : decode cX12_worked 83 = .ok (.lload_n 1, 1) := by decide +kernel
theorem dX12_worked_84 : decode cX12_worked 84 = .ok (.lload_n 3, 1) := by decide +kernel
theorem dX12_worked_85 : decode cX12_worked 85 = .ok (.ldiv, 1) := by decide +kernel
theorem dX12_worked_86 : decode cX12_worked 86 = .ok (.invokestatic 226, 3) := by decide +kernel
theorem dX12_worked_89 : decode cX12_worked 89 = .ok (.ireturn, 1) := by decide +kernel
theorem dX12_worked_90 : decode cX12_worked 90 = .ok (.lload_n 1, 1) := by decide +kernel
theorem dX12_worked_91 : decode cX12_worked 91 = .ok (.lload_n 3, 1) := by decide +kernel
theorem dX12_worked_92 : decode cX12_worked 92 = .ok (.lcmp, 1) := by decide +kernel
theorem dX12_worked_93 : decode cX12_worked 93 = .ok (.ifCond .ne 7, 3) := by decide +kernel
theorem dX12_worked_96 : decode cX12_worked 96 = .ok (.iconst 1, 1) := by decide +kernel
theorem dX12_worked_97 : decode cX12_worked 97 = .ok (.goto 4, 3) := by decide +kernel
theorem dX12_worked_100 : decode cX12_worked 100 = .ok (.iconst 0, 1) := by decide +kernel
theorem dX12_worked_101 : decode cX12_worked 101 = .ok (.ireturn, 1) := by decide +kernel
theorem dX12_worked_102 : decode cX12_worked 102 = .ok (.lload_n 1, 1) := by decide +kernel
theorem dX12_worked_103 : decode cX12_worked 103 = .ok (.lload_n 3, 1) := by decide +kernel
theorem dX12_worked_104 : decode cX12_worked 104 = .ok (.lcmp, 1) := by decide +kernel
theorem dX12_worked_105 : decode cX12_worked 105 = .ok (.ifCond .ge 7, 3) := by decide +kernel
theorem dX12_worked_108 : decode cX12_worked 108 = .ok (.iconst 1, 1) := by decide +kernel
theorem dX12_worked_109 : decode cX12_worked 109 = .ok (.goto 4, 3) := by decide +kernel
theorem dX12_worked_112 : decode cX12_worked 112 = .ok (.iconst 0, 1) := by decide +kernel
theorem dX12_worked_113 : decode cX12_worked 113 = .ok (.ireturn, 1) := by decide +kernel
theorem dX12_worked_114 : decode cX12_worked 114 = .ok (.lload_n 1, 1) := by decide +kernel
theorem dX12_worked_115 : decode cX12_worked 115 = .ok (.lload_n 3, 1) := by decide +kernel
theorem dX12_worked_116 : decode cX12_worked 116 = .ok (.lcmp, 1) := by decide +kernel
theorem dX12_worked_117 : decode cX12_worked 117 = .ok (.ifCond .le 7, 3) := by decide +kernel
theorem dX12_worked_120 : decode cX12_worked 120 = .ok (.iconst 1, 1) := by decide +kernel
theorem dX12_worked_121 : decode cX12_worked 121 = .ok (.goto 4, 3) := by decide +kernel
theorem dX12_worked_124 : decode cX12_worked 124 = .ok (.iconst 0, 1) := by decide +kernel
theorem dX12_worked_125 : decode cX12_worked 125 = .ok (.ireturn, 1) := by decide +kernel
theorem dX12_worked_126 : decode cX12_worked 126 = .ok (.lload_n 1, 1) := by decide +kernel
theorem dX12_worked_127 : decode cX12_worked 127 = .ok (.lconst 0, 1) := by decide +kernel
theorem dX12_worked_128 : decode cX12_worked 128 = .ok (.lcmp, 1) := by decide +kernel
theorem dX12_worked_129 : decode cX12_worked 129 = .ok (.ifCond .eq 13, 3) := by decide +kernel
theorem dX12_worked_132 : decode cX12_worked 132 = .ok (.lload_n 3, 1) := by decide +kernel
theorem dX12_worked_133 : decode cX12_worked 133 = .ok (.lconst 0, 1) := by decide +kernel
theorem dX12_worked_134 : decode cX12_worked 134 = .ok (.lcmp, 1) := by decide +kernel
theorem dX12_worked_135 : decode cX12_worked 135 = .ok (.ifCond .eq 7, 3) := by decide +kernel
theorem dX12_worked_138 : decode cX12_worked 138 = .ok (.iconst 1, 1) := by decide +kernel
theorem dX12_worked_139 : decode cX12_worked 139 = .ok (.goto 4, 3) := by decide +kernel
theorem dX12_worked_142 : decode cX12_worked 142 = .ok (.iconst 0, 1) := by decide +kernel
theorem dX12_worked_143 : decode cX12_worked 143 = .ok (.ireturn, 1) := by decide +kernel
theorem dX12_worked_144 : decode cX12_worked 144 = .ok (.lload_n 1, 1) := by decide +kernel
theorem dX12_worked_145 : decode cX12_worked 145 = .ok (.lconst 0, 1) := by decide +kernel
theorem dX12_worked_146 : decode cX12_worked 146 = .ok (.lcmp, 1) := by decide +kernel
theorem dX12_worked_147 : decode cX12_worked 147 = .ok (.ifCond .ne 9, 3) := by decide +kernel
theorem dX12_worked_150 : decode cX12_worked 150 = .ok (.lload_n 3, 1) := by decide +kernel
theorem dX12_worked_151 : decode cX12_worked 151 = .ok (.lconst 0, 1) := by decide +kernel
theorem dX12_worked_152 : decode cX12_worked 152 = .ok (.lcmp, 1) := by decide +kernel
theorem dX12_worked_153 : decode cX12_worked 153 = .ok (.ifCond .eq 7, 3) := by decide +kernel
theorem dX12_worked_156 : decode cX12_worked 156 = .ok (.iconst 1, 1) := by decide +kernel
theorem dX12_worked_157 : decode cX12_worked 157 = .ok (.goto 4, 3) := by decide +kernel
theorem dX12_worked_160 : decode cX12_worked 160 = .ok (.iconst 0, 1) := by decide +kernel
theorem dX12_worked_161 : decode cX12_worked 161 = .ok (.ireturn, 1) := by decide +kernel
theorem dX12_workOut_0 : decode cX12_workOut 0 = .ok (.iconst 0, 1) := by decide +kernel
theorem dX12_workOut_1 : decode cX12_workOut 1 = .ok (.istore 4, 2) := by decide +kernel
theorem dX12_workOut_3 : decode cX12_workOut 3 = .ok (.sipush 520, 3) := by decide +kernel
theorem dX12_workOut_6 : decode cX12_workOut 6 = .ok (.iload_n 1, 1) := by decide +kernel
theorem dX12_workOut_7 : decode cX12_workOut 7 = .ok (.imul, 1) := by decide +kernel
theorem dX12_workOut_8 : decode cX12_workOut 8 = .ok (.iload_n 2, 1) := by decide +kernel
theorem dX12_workOut_9 : decode cX12_workOut 9 = .ok (.iadd, 1) := by decide +kernel
theorem dX12_workOut_10 : decode cX12_workOut 10 = .ok (.istore 5, 2) := by decide +kernel
theorem dX12_workOut_12 : decode cX12_workOut 12 = .ok (.iload 5, 2) := by decide +kernel
theorem dX12_workOut_14 : decode cX12_workOut 14 = .ok (.sipush 520, 3) := by decide +kernel
theorem dX12_workOut_17 : decode cX12_workOut 17 = .ok (.iload_n 1, 1) := by decide +kernel
theorem dX12_workOut_18 : decode cX12_workOut 18 = .ok (.imul, 1) := by decide +kernel
theorem dX12_workOut_19 : decode cX12_workOut 19 = .ok (.iload_n 3, 1) := by decide +kernel
theorem dX12_workOut_20 : decode cX12_workOut 20 = .ok (.iadd, 1) := by decide +kernel
theorem dX12_workOut_21 : decode cX12_workOut 21 = .ok (.if_icmp .ge 150, 3) := by decide +kernel
theorem dX12_workOut_24 : decode cX12_workOut 24 = .ok (.aload_n 0, 1) := by decide +kernel
theorem dX12_workOut_25 : decode cX12_workOut 25 = .ok (.getfield 13, 3) := by decide +kernel
theorem dX12_workOut_28 : decode cX12_workOut 28 = .ok (.iload 5, 2) := by decide +kernel
theorem dX12_workOut_30 : decode cX12_workOut 30 = .ok (.iaload, 1) := by decide +kernel
theorem dX12_workOut_31 : decode cX12_workOut 31 = .ok (.ifCond .eq 14, 3) := by decide +kernel
theorem dX12_workOut_34 : decode cX12_workOut 34 = .ok (.aload_n 0, 1) := by decide +kernel
theorem dX12_workOut_35 : decode cX12_workOut 35 = .ok (.getfield 13, 3) := by decide +kernel
theorem dX12_workOut_38 : decode cX12_workOut 38 = .ok (.iload 5, 2) := by decide +kernel
theorem dX12_workOut_40 : decode cX12_workOut 40 = .ok (.iaload, 1) := by decide +kernel
theorem dX12_workOut_41 : decode cX12_workOut 41 = .ok (.iconst 1, 1) := by decide +kernel
theorem dX12_workOut_42 : decode cX12_workOut 42 = .ok (.if_icmp .ne 48, 3) := by decide +kernel
theorem dX12_workOut_45 : decode cX12_workOut 45 = .ok (.aload_n 0, 1) := by decide +kernel
theorem dX12_workOut_46 : decode cX12_workOut 46 = .ok (.getfield 37, 3) := by decide +kernel
theorem dX12_workOut_49 : decode cX12_workOut 49 = .ok (.iload 4, 2) := by decide +kernel
theorem dX12_workOut_51 : decode cX12_workOut 51 = .ok (.aload_n 0, 1) := by decide +kernel
theorem dX12_workOut_52 : decode cX12_workOut 52 = .ok (.getfield 13, 3) := by decide +kernel
theorem dX12_workOut_55 : decode cX12_workOut 55 = .ok (.iload 5, 2) := by decide +kernel
theorem dX12_workOut_57 : decode cX12_workOut 57 = .ok (.iaload, 1) := by decide +kernel
theorem dX12_workOut_58 : decode cX12_workOut 58 = .ok (.ifCond .ne 13, 3) := by decide +kernel
theorem dX12_workOut_61 : decode cX12_workOut 61 = .ok (.aload_n 0, 1) := by decide +kernel
theorem dX12_workOut_62 : decode cX12_workOut 62 = .ok (.getfield 16, 3) := by decide +kernel
theorem dX12_workOut_65 : decode cX12_workOut 65 = .ok (.iload 5, 2) := by decide +kernel
theorem dX12_workOut_67 : decode cX12_workOut 67 = .ok (.iaload, 1) := by decide +kernel
theorem dX12_workOut_68 : decode cX12_workOut 68 = .ok (.goto 15, 3) := by decide +kernel
theorem dX12_workOut_71 : decode cX12_workOut 71 = .ok (.aload_n 0, 1) := by decide +kernel
theorem dX12_workOut_72 : decode cX12_workOut 72 = .ok (.getfield 34, 3) := by decide +kernel
theorem dX12_workOut_75 : decode cX12_workOut 75 = .ok (.aload_n 0, 1) := by decide +kernel
theorem dX12_workOut_76 : decode cX12_workOut 76 = .ok (.getfield 16, 3) := by decide +kernel
theorem dX12_workOut_79 : decode cX12_workOut 79 = .ok (.iload 5, 2) := by decide +kernel
theorem dX12_workOut_81 : decode cX12_workOut 81 = .ok (.iaload, 1) := by decide +kernel
theorem dX12_workOut_82 : decode cX12_workOut 82 = .ok (.iaload, 1) := by decide +kernel
theorem dX12_workOut_83 : decode cX12_workOut 83 = .ok (.iastore, 1) := by decide +kernel
theorem dX12_workOut_84 : decode cX12_workOut 84 = .ok (.iinc 4 1, 3) := by decide +kernel
theorem dX12_workOut_87 : decode cX12_workOut 87 = .ok (.goto 78, 3) := by decide +kernel
theorem dX12_workOut_90 : decode cX12_workOut 90 = .ok (.aload_n 0, 1) := by decide +kernel
theorem dX12_workOut_91 : decode cX12_workOut 91 = .ok (.getfield 13, 3) := by decide +kernel
theorem dX12_workOut_94 : decode cX12_workOut 94 = .ok (.iload 5, 2) := by decide +kernel
theorem dX12_workOut_96 : decode cX12_workOut 96 = .ok (.iaload, 1) := by decide +kernel
theorem dX12_workOut_97 : decode cX12_workOut 97 = .ok (.bipush 9, 2) := by decide +kernel
theorem dX12_workOut_99 : decode cX12_workOut 99 = .ok (.if_icmp .ne 26, 3) := by decide +kernel
theorem dX12_workOut_102 : decode cX12_workOut 102 = .ok (.aload_n 0, 1) := by decide +kernel
theorem dX12_workOut_103 : decode cX12_workOut 103 = .ok (.getfield 37, 3) := by decide +kernel
theorem dX12_workOut_106 : decode cX12_workOut 106 = .ok (.iload 4, 2) := by decide +kernel
theorem dX12_workOut_108 : decode cX12_workOut 108 = .ok (.iconst 1, 1) := by decide +kernel
theorem dX12_workOut_109 : decode cX12_workOut 109 = .ok (.isub, 1) := by decide +kernel
theorem dX12_workOut_110 : decode cX12_workOut 110 = .ok (.iconst 1, 1) := by decide +kernel
theorem dX12_workOut_111 : decode cX12_workOut 111 = .ok (.aload_n 0, 1) := by decide +kernel
theorem dX12_workOut_112 : decode cX12_workOut 112 = .ok (.getfield 37, 3) := by decide +kernel
theorem dX12_workOut_115 : decode cX12_workOut 115 = .ok (.iload 4, 2) := by decide +kernel
theorem dX12_workOut_117 : decode cX12_workOut 117 = .ok (.iconst 1, 1) := by decide +kernel
theorem dX12_workOut_118 : decode cX12_workOut 118 = .ok (.isub, 1) := by decide +kernel
theorem dX12_workOut_119 : decode cX12_workOut 119 = .ok (.iaload, 1) := by decide +kernel
theorem dX12_workOut_120 : decode cX12_workOut 120 = .ok (.isub, 1) := by decide +kernel
theorem dX12_workOut_121 : decode cX12_workOut 121 = .ok (.iastore, 1) := by decide +kernel
theorem dX12_workOut_122 : decode cX12_workOut 122 = .ok (.goto 43, 3) := by decide +kernel
theorem dX12_workOut_125 : decode cX12_workOut 125 = .ok (.iinc 4 (-1), 3) := by decide +kernel
theorem dX12_workOut_128 : decode cX12_workOut 128 = .ok (.aload_n 0, 1) := by decide +kernel
theorem dX12_workOut_129 : decode cX12_workOut 129 = .ok (.getfield 37, 3) := by decide +kernel
theorem dX12_workOut_132 : decode cX12_workOut 132 = .ok (.iload 4, 2) := by decide +kernel
theorem dX12_workOut_134 : decode cX12_workOut 134 = .ok (.iconst 1, 1) := by decide +kernel
theorem dX12_workOut_135 : decode cX12_workOut 135 = .ok (.isub, 1) := by decide +kernel
theorem dX12_workOut_136 : decode cX12_workOut 136 = .ok (.aload_n 0, 1) := by decide +kernel
theorem dX12_workOut_137 : decode cX12_workOut 137 = .ok (.getfield 13, 3) := by decide +kernel
theorem dX12_workOut_140 : decode cX12_workOut 140 = .ok (.iload 5, 2) := by decide +kernel
theorem dX12_workOut_142 : decode cX12_workOut 142 = .ok (.iaload, 1) := by decide +kernel
theorem dX12_workOut_143 : decode cX12_workOut 143 = .ok (.aload_n 0, 1) := by decide +kernel
theorem dX12_workOut_144 : decode cX12_workOut 144 = .ok (.getfield 37, 3) := by decide +kernel
theorem dX12_workOut_147 : decode cX12_workOut 147 = .ok (.iload 4, 2) := by decide +kernel
theorem dX12_workOut_149 : decode cX12_workOut 149 = .ok (.iconst 1, 1) := by decide +kernel
theorem dX12_workOut_150 : decode cX12_workOut 150 = .ok (.isub, 1) := by decide +kernel
theorem dX12_workOut_151 : decode cX12_workOut 151 = .ok (.iaload, 1) := by decide +kernel
theorem dX12_workOut_152 : decode cX12_workOut 152 = .ok (.i2l, 1) := by decide +kernel
theorem dX12_workOut_153 : decode cX12_workOut 153 = .ok (.aload_n 0, 1) := by decide +kernel
theorem dX12_workOut_154 : decode cX12_workOut 154 = .ok (.getfield 37, 3) := by decide +kernel
theorem dX12_workOut_157 : decode cX12_workOut 157 = .ok (.iload 4, 2) := by decide +kernel
theorem dX12_workOut_159 : decode cX12_workOut 159 = .ok (.iaload, 1) := by decide +kernel
theorem dX12_workOut_160 : decode cX12_workOut 160 = .ok (.i2l, 1) := by decide +kernel
theorem dX12_workOut_161 : decode cX12_workOut 161 = .ok (.invokestatic 230, 3) := by decide +kernel
theorem dX12_workOut_164 : decode cX12_workOut 164 = .ok (.iastore, 1) := by decide +kernel
theorem dX12_workOut_165 : decode cX12_workOut 165 = .ok (.iinc 5 1, 3) := by decide +kernel
theorem dX12_workOut_168 : decode cX12_workOut 168 = .ok (.goto (-156), 3) := by decide +kernel
theorem dX12_workOut_171 : decode cX12_workOut 171 = .ok (.aload_n 0, 1) := by decide +kernel
theorem dX12_workOut_172 : decode cX12_workOut 172 = .ok (.getfield 37, 3) := by decide +kernel
theorem dX12_workOut_175 : decode cX12_workOut 175 = .ok (.iconst 0, 1) := by decide +kernel
theorem dX12_workOut_176 : decode cX12_workOut 176 = .ok (.iaload, 1) := by decide +kernel
theorem dX12_workOut_177 : decode cX12_workOut 177 = .ok (.ireturn, 1) := by decide +kernel
theorem dX12_worthOf_0 : decode cX12_worthOf 0 = .ok (.sipush 140, 3) := by decide +kernel
theorem dX12_worthOf_3 : decode cX12_worthOf 3 = .ok (.iload_n 1, 1) := by decide +kernel
theorem dX12_worthOf_4 : decode cX12_worthOf 4 = .ok (.imul, 1) := by decide +kernel
theorem dX12_worthOf_5 : decode cX12_worthOf 5 = .ok (.istore_n 2, 1) := by decide +kernel
theorem dX12_worthOf_6 : decode cX12_worthOf 6 = .ok (.iload_n 2, 1) := by decide +kernel
theorem dX12_worthOf_7 : decode cX12_worthOf 7 = .ok (.sipush 140, 3) := by decide +kernel
theorem dX12_worthOf_10 : decode cX12_worthOf 10 = .ok (.iload_n 1, 1) := by decide +kernel
theorem dX12_worthOf_11 : decode cX12_worthOf 11 = .ok (.imul, 1) := by decide +kernel
theorem dX12_worthOf_12 : decode cX12_worthOf 12 = .ok (.aload_n 0, 1) := by decide +kernel
theorem dX12_worthOf_13 : decode cX12_worthOf 13 = .ok (.getfield 22, 3) := by decide +kernel
theorem dX12_worthOf_16 : decode cX12_worthOf 16 = .ok (.iload_n 1, 1) := by decide +kernel
theorem dX12_worthOf_17 : decode cX12_worthOf 17 = .ok (.iaload, 1) := by decide +kernel
theorem dX12_worthOf_18 : decode cX12_worthOf 18 = .ok (.iadd, 1) := by decide +kernel
theorem dX12_worthOf_19 : decode cX12_worthOf 19 = .ok (.if_icmp .ge 62, 3) := by decide +kernel
theorem dX12_worthOf_22 : decode cX12_worthOf 22 = .ok (.aload_n 0, 1) := by decide +kernel
theorem dX12_worthOf_23 : decode cX12_worthOf 23 = .ok (.getfield 25, 3) := by decide +kernel
theorem dX12_worthOf_26 : decode cX12_worthOf 26 = .ok (.iload_n 2, 1) := by decide +kernel
theorem dX12_worthOf_27 : decode cX12_worthOf 27 = .ok (.iaload, 1) := by decide +kernel
theorem dX12_worthOf_28 : decode cX12_worthOf 28 = .ok (.aload_n 0, 1) := by decide +kernel
theorem dX12_worthOf_29 : decode cX12_worthOf 29 = .ok (.getfield 28, 3) := by decide +kernel
theorem dX12_worthOf_32 : decode cX12_worthOf 32 = .ok (.iload_n 2, 1) := by decide +kernel
theorem dX12_worthOf_33 : decode cX12_worthOf 33 = .ok (.iaload, 1) := by decide +kernel
theorem dX12_worthOf_34 : decode cX12_worthOf 34 = .ok (.if_icmp .eq 23, 3) := by decide +kernel
theorem dX12_worthOf_37 : decode cX12_worthOf 37 = .ok (.aload_n 0, 1) := by decide +kernel
theorem dX12_worthOf_38 : decode cX12_worthOf 38 = .ok (.iload_n 1, 1) := by decide +kernel
theorem dX12_worthOf_39 : decode cX12_worthOf 39 = .ok (.aload_n 0, 1) := by decide +kernel
theorem dX12_worthOf_40 : decode cX12_worthOf 40 = .ok (.getfield 25, 3) := by decide +kernel
theorem dX12_worthOf_43 : decode cX12_worthOf 43 = .ok (.iload_n 2, 1) := by decide +kernel
theorem dX12_worthOf_44 : decode cX12_worthOf 44 = .ok (.iaload, 1) := by decide +kernel
theorem dX12_worthOf_45 : decode cX12_worthOf 45 = .ok (.aload_n 0, 1) := by decide +kernel
theorem dX12_worthOf_46 : decode cX12_worthOf 46 = .ok (.getfield 28, 3) := by decide +kernel
theorem dX12_worthOf_49 : decode cX12_worthOf 49 = .ok (.iload_n 2, 1) := by decide +kernel
theorem dX12_worthOf_50 : decode cX12_worthOf 50 = .ok (.iaload, 1) := by decide +kernel
theorem dX12_worthOf_51 : decode cX12_worthOf 51 = .ok (.invokevirtual 234, 3) := by decide +kernel
theorem dX12_worthOf_54 : decode cX12_worthOf 54 = .ok (.ifCond .eq 21, 3) := by decide +kernel
theorem dX12_worthOf_57 : decode cX12_worthOf 57 = .ok (.aload_n 0, 1) := by decide +kernel
theorem dX12_worthOf_58 : decode cX12_worthOf 58 = .ok (.iload_n 1, 1) := by decide +kernel
theorem dX12_worthOf_59 : decode cX12_worthOf 59 = .ok (.aload_n 0, 1) := by decide +kernel
theorem dX12_worthOf_60 : decode cX12_worthOf 60 = .ok (.getfield 28, 3) := by decide +kernel
theorem dX12_worthOf_63 : decode cX12_worthOf 63 = .ok (.iload_n 2, 1) := by decide +kernel
theorem dX12_worthOf_64 : decode cX12_worthOf 64 = .ok (.iaload, 1) := by decide +kernel
theorem dX12_worthOf_65 : decode cX12_worthOf 65 = .ok (.aload_n 0, 1) := by decide +kernel
theorem dX12_worthOf_66 : decode cX12_worthOf 66 = .ok (.getfield 31, 3) := by decide +kernel
theorem dX12_worthOf_69 : decode cX12_worthOf 69 = .ok (.iload_n 2, 1) := by decide +kernel
theorem dX12_worthOf_70 : decode cX12_worthOf 70 = .ok (.iaload, 1) := by decide +kernel
theorem dX12_worthOf_71 : decode cX12_worthOf 71 = .ok (.invokevirtual 234, 3) := by decide +kernel
theorem dX12_worthOf_74 : decode cX12_worthOf 74 = .ok (.ireturn, 1) := by decide +kernel
theorem dX12_worthOf_75 : decode cX12_worthOf 75 = .ok (.iinc 2 1, 3) := by decide +kernel
theorem dX12_worthOf_78 : decode cX12_worthOf 78 = .ok (.goto (-72), 3) := by decide +kernel
theorem dX12_worthOf_81 : decode cX12_worthOf 81 = .ok (.iconst 0, 1) := by decide +kernel
theorem dX12_worthOf_82 : decode cX12_worthOf 82 = .ok (.ireturn, 1) := by decide +kernel
theorem dX12_number_0 : decode cX12_number 0 = .ok (.aload_n 0, 1) := by decide +kernel
theorem dX12_number_1 : decode cX12_number 1 = .ok (.invokevirtual 152, 3) := by decide +kernel
theorem dX12_number_4 : decode cX12_number 4 = .ok (.invokestatic 155, 3) := by decide +kernel
theorem dX12_number_7 : decode cX12_number 7 = .ok (.ifCond .ne 9, 3) := by decide +kernel
theorem dX12_number_10 : decode cX12_number 10 = .ok (.aload_n 0, 1) := by decide +kernel
theorem dX12_number_11 : decode cX12_number 11 = .ok (.invokevirtual 149, 3) := by decide +kernel
theorem dX12_number_14 : decode cX12_number 14 = .ok (.iload_n 1, 1) := by decide +kernel
theorem dX12_number_15 : decode cX12_number 15 = .ok (.ireturn, 1) := by decide +kernel
theorem dX12_number_16 : decode cX12_number 16 = .ok (.aload_n 0, 1) := by decide +kernel
theorem dX12_number_17 : decode cX12_number 17 = .ok (.invokevirtual 136, 3) := by decide +kernel
theorem dX12_number_20 : decode cX12_number 20 = .ok (.bipush 48, 2) := by decide +kernel
theorem dX12_number_22 : decode cX12_number 22 = .ok (.isub, 1) := by decide +kernel
theorem dX12_number_23 : decode cX12_number 23 = .ok (.istore_n 3, 1) := by decide +kernel
theorem dX12_number_24 : decode cX12_number 24 = .ok (.aload_n 0, 1) := by decide +kernel
theorem dX12_number_25 : decode cX12_number 25 = .ok (.dup, 1) := by decide +kernel
theorem dX12_number_26 : decode cX12_number 26 = .ok (.getfield 133, 3) := by decide +kernel
theorem dX12_number_29 : decode cX12_number 29 = .ok (.iconst 1, 1) := by decide +kernel
theorem dX12_number_30 : decode cX12_number 30 = .ok (.iadd, 1) := by decide +kernel
theorem dX12_number_31 : decode cX12_number 31 = .ok (.putfield 133, 3) := by decide +kernel
theorem dX12_number_34 : decode cX12_number 34 = .ok (.aload_n 0, 1) := by decide +kernel
theorem dX12_number_35 : decode cX12_number 35 = .ok (.invokevirtual 136, 3) := by decide +kernel
theorem dX12_number_38 : decode cX12_number 38 = .ok (.invokestatic 155, 3) := by decide +kernel
theorem dX12_number_41 : decode cX12_number 41 = .ok (.ifCond .eq 26, 3) := by decide +kernel
theorem dX12_number_44 : decode cX12_number 44 = .ok (.bipush 10, 2) := by decide +kernel
theorem dX12_number_46 : decode cX12_number 46 = .ok (.iload_n 3, 1) := by decide +kernel
theorem dX12_number_47 : decode cX12_number 47 = .ok (.imul, 1) := by decide +kernel
theorem dX12_number_48 : decode cX12_number 48 = .ok (.aload_n 0, 1) := by decide +kernel
theorem dX12_number_49 : decode cX12_number 49 = .ok (.invokevirtual 136, 3) := by decide +kernel
theorem dX12_number_52 : decode cX12_number 52 = .ok (.iadd, 1) := by decide +kernel
theorem dX12_number_53 : decode cX12_number 53 = .ok (.bipush 48, 2) := by decide +kernel
theorem dX12_number_55 : decode cX12_number 55 = .ok (.isub, 1) := by decide +kernel
theorem dX12_number_56 : decode cX12_number 56 = .ok (.istore_n 3, 1) := by decide +kernel
theorem dX12_number_57 : decode cX12_number 57 = .ok (.aload_n 0, 1) := by decide +kernel
theorem dX12_number_58 : decode cX12_number 58 = .ok (.dup, 1) := by decide +kernel
theorem dX12_number_59 : decode cX12_number 59 = .ok (.getfield 133, 3) := by decide +kernel
theorem dX12_number_62 : decode cX12_number 62 = .ok (.iconst 1, 1) := by decide +kernel
theorem dX12_number_63 : decode cX12_number 63 = .ok (.iadd, 1) := by decide +kernel
theorem dX12_number_64 : decode cX12_number 64 = .ok (.putfield 133, 3) := by decide +kernel
theorem dX12_number_67 : decode cX12_number 67 = .ok (.aload_n 0, 1) := by decide +kernel
theorem dX12_number_68 : decode cX12_number 68 = .ok (.invokevirtual 136, 3) := by decide +kernel
theorem dX12_number_71 : decode cX12_number 71 = .ok (.invokestatic 155, 3) := by decide +kernel
theorem dX12_number_74 : decode cX12_number 74 = .ok (.ifCond .eq 10, 3) := by decide +kernel
theorem dX12_number_77 : decode cX12_number 77 = .ok (.aload_n 0, 1) := by decide +kernel
theorem dX12_number_78 : decode cX12_number 78 = .ok (.invokevirtual 149, 3) := by decide +kernel
theorem dX12_number_81 : decode cX12_number 81 = .ok (.goto 26, 3) := by decide +kernel
theorem dX12_number_84 : decode cX12_number 84 = .ok (.iload_n 3, 1) := by decide +kernel
theorem dX12_number_85 : decode cX12_number 85 = .ok (.iload_n 1, 1) := by decide +kernel
theorem dX12_number_86 : decode cX12_number 86 = .ok (.iload_n 2, 1) := by decide +kernel
theorem dX12_number_87 : decode cX12_number 87 = .ok (.invokestatic 238, 3) := by decide +kernel
theorem dX12_number_90 : decode cX12_number 90 = .ok (.ifCond .ne 17, 3) := by decide +kernel
theorem dX12_number_93 : decode cX12_number 93 = .ok (.aload_n 0, 1) := by decide +kernel
theorem dX12_number_94 : decode cX12_number 94 = .ok (.dup, 1) := by decide +kernel
theorem dX12_number_95 : decode cX12_number 95 = .ok (.getfield 133, 3) := by decide +kernel
theorem dX12_number_98 : decode cX12_number 98 = .ok (.iconst 1, 1) := by decide +kernel
theorem dX12_number_99 : decode cX12_number 99 = .ok (.isub, 1) := by decide +kernel
theorem dX12_number_100 : decode cX12_number 100 = .ok (.putfield 133, 3) := by decide +kernel
theorem dX12_number_103 : decode cX12_number 103 = .ok (.aload_n 0, 1) := by decide +kernel
theorem dX12_number_104 : decode cX12_number 104 = .ok (.invokevirtual 149, 3) := by decide +kernel
theorem dX12_number_107 : decode cX12_number 107 = .ok (.iload_n 3, 1) := by decide +kernel
theorem dX12_number_108 : decode cX12_number 108 = .ok (.ireturn, 1) := by decide +kernel
theorem dX12_itemOf_0 : decode cX12_itemOf 0 = .ok (.iload_n 0, 1) := by decide +kernel
theorem dX12_itemOf_1 : decode cX12_itemOf 1 = .ok (.lookupswitch 161 #[(110, 35), (114, 119), (116, 77)], 35) := by decide +kernel
theorem dX12_itemOf_36 : decode cX12_itemOf 36 = .ok (.iload_n 1, 1) := by decide +kernel
theorem dX12_itemOf_37 : decode cX12_itemOf 37 = .ok (.bipush 109, 2) := by decide +kernel
theorem dX12_itemOf_39 : decode cX12_itemOf 39 = .ok (.if_icmp .ne 7, 3) := by decide +kernel
theorem dX12_itemOf_42 : decode cX12_itemOf 42 = .ok (.iconst 0, 1) := by decide +kernel
theorem dX12_itemOf_43 : decode cX12_itemOf 43 = .ok (.goto 34, 3) := by decide +kernel
theorem dX12_itemOf_46 : decode cX12_itemOf 46 = .ok (.iload_n 1, 1) := by decide +kernel
theorem dX12_itemOf_47 : decode cX12_itemOf 47 = .ok (.bipush 99, 2) := by decide +kernel
theorem dX12_itemOf_49 : decode cX12_itemOf 49 = .ok (.if_icmp .ne 7, 3) := by decide +kernel
theorem dX12_itemOf_52 : decode cX12_itemOf 52 = .ok (.iconst 1, 1) := by decide +kernel
theorem dX12_itemOf_53 : decode cX12_itemOf 53 = .ok (.goto 24, 3) := by decide +kernel
theorem dX12_itemOf_56 : decode cX12_itemOf 56 = .ok (.iload_n 1, 1) := by decide +kernel
theorem dX12_itemOf_57 : decode cX12_itemOf 57 = .ok (.bipush 104, 2) := by decide +kernel
theorem dX12_itemOf_59 : decode cX12_itemOf 59 = .ok (.if_icmp .ne 7, 3) := by decide +kernel
theorem dX12_itemOf_62 : decode cX12_itemOf 62 = .ok (.iconst 2, 1) := by decide +kernel
theorem dX12_itemOf_63 : decode cX12_itemOf 63 = .ok (.goto 14, 3) := by decide +kernel
theorem dX12_itemOf_66 : decode cX12_itemOf 66 = .ok (.iload_n 1, 1) := by decide +kernel
theorem dX12_itemOf_67 : decode cX12_itemOf 67 = .ok (.bipush 102, 2) := by decide +kernel
theorem dX12_itemOf_69 : decode cX12_itemOf 69 = .ok (.if_icmp .ne 7, 3) := by decide +kernel
theorem dX12_itemOf_72 : decode cX12_itemOf 72 = .ok (.iconst 3, 1) := by decide +kernel
theorem dX12_itemOf_73 : decode cX12_itemOf 73 = .ok (.goto 4, 3) := by decide +kernel
theorem dX12_itemOf_76 : decode cX12_itemOf 76 = .ok (.iconst (-1), 1) := by decide +kernel
theorem dX12_itemOf_77 : decode cX12_itemOf 77 = .ok (.ireturn, 1) := by decide +kernel
theorem dX12_itemOf_78 : decode cX12_itemOf 78 = .ok (.iload_n 1, 1) := by decide +kernel
theorem dX12_itemOf_79 : decode cX12_itemOf 79 = .ok (.bipush 97, 2) := by decide +kernel
theorem dX12_itemOf_81 : decode cX12_itemOf 81 = .ok (.if_icmp .ne 7, 3) := by decide +kernel
theorem dX12_itemOf_84 : decode cX12_itemOf 84 = .ok (.iconst 0, 1) := by decide +kernel
theorem dX12_itemOf_85 : decode cX12_itemOf 85 = .ok (.goto 34, 3) := by decide +kernel
theorem dX12_itemOf_88 : decode cX12_itemOf 88 = .ok (.iload_n 1, 1) := by decide +kernel
theorem dX12_itemOf_89 : decode cX12_itemOf 89 = .ok (.bipush 99, 2) := by decide +kernel
theorem dX12_itemOf_91 : decode cX12_itemOf 91 = .ok (.if_icmp .ne 7, 3) := by decide +kernel
theorem dX12_itemOf_94 : decode cX12_itemOf 94 = .ok (.iconst 1, 1) := by decide +kernel
theorem dX12_itemOf_95 : decode cX12_itemOf 95 = .ok (.goto 24, 3) := by decide +kernel
theorem dX12_itemOf_98 : decode cX12_itemOf 98 = .ok (.iload_n 1, 1) := by decide +kernel
theorem dX12_itemOf_99 : decode cX12_itemOf 99 = .ok (.bipush 98, 2) := by decide +kernel
theorem dX12_itemOf_101 : decode cX12_itemOf 101 = .ok (.if_icmp .ne 7, 3) := by decide +kernel
theorem dX12_itemOf_104 : decode cX12_itemOf 104 = .ok (.iconst 2, 1) := by decide +kernel
theorem dX12_itemOf_105 : decode cX12_itemOf 105 = .ok (.goto 14, 3) := by decide +kernel
theorem dX12_itemOf_108 : decode cX12_itemOf 108 = .ok (.iload_n 1, 1) := by decide +kernel
theorem dX12_itemOf_109 : decode cX12_itemOf 109 = .ok (.bipush 108, 2) := by decide +kernel
theorem dX12_itemOf_111 : decode cX12_itemOf 111 = .ok (.if_icmp .ne 7, 3) := by decide +kernel
theorem dX12_itemOf_114 : decode cX12_itemOf 114 = .ok (.iconst 3, 1) := by decide +kernel
theorem dX12_itemOf_115 : decode cX12_itemOf 115 = .ok (.goto 4, 3) := by decide +kernel
theorem dX12_itemOf_118 : decode cX12_itemOf 118 = .ok (.iconst (-1), 1) := by decide +kernel
theorem dX12_itemOf_119 : decode cX12_itemOf 119 = .ok (.ireturn, 1) := by decide +kernel
theorem dX12_itemOf_120 : decode cX12_itemOf 120 = .ok (.iload_n 1, 1) := by decide +kernel
theorem dX12_itemOf_121 : decode cX12_itemOf 121 = .ok (.bipush 97, 2) := by decide +kernel
theorem dX12_itemOf_123 : decode cX12_itemOf 123 = .ok (.if_icmp .ne 7, 3) := by decide +kernel
theorem dX12_itemOf_126 : decode cX12_itemOf 126 = .ok (.iconst 0, 1) := by decide +kernel
theorem dX12_itemOf_127 : decode cX12_itemOf 127 = .ok (.goto 34, 3) := by decide +kernel
theorem dX12_itemOf_130 : decode cX12_itemOf 130 = .ok (.iload_n 1, 1) := by decide +kernel
theorem dX12_itemOf_131 : decode cX12_itemOf 131 = .ok (.bipush 99, 2) := by decide +kernel
theorem dX12_itemOf_133 : decode cX12_itemOf 133 = .ok (.if_icmp .ne 7, 3) := by decide +kernel
theorem dX12_itemOf_136 : decode cX12_itemOf 136 = .ok (.iconst 1, 1) := by decide +kernel
theorem dX12_itemOf_137 : decode cX12_itemOf 137 = .ok (.goto 24, 3) := by decide +kernel
theorem dX12_itemOf_140 : decode cX12_itemOf 140 = .ok (.iload_n 1, 1) := by decide +kernel
theorem dX12_itemOf_141 : decode cX12_itemOf 141 = .ok (.bipush 104, 2) := by decide +kernel
theorem dX12_itemOf_143 : decode cX12_itemOf 143 = .ok (.if_icmp .ne 7, 3) := by decide +kernel
theorem dX12_itemOf_146 : decode cX12_itemOf 146 = .ok (.iconst 2, 1) := by decide +kernel
theorem dX12_itemOf_147 : decode cX12_itemOf 147 = .ok (.goto 14, 3) := by decide +kernel
theorem dX12_itemOf_150 : decode cX12_itemOf 150 = .ok (.iload_n 1, 1) := by decide +kernel
theorem dX12_itemOf_151 : decode cX12_itemOf 151 = .ok (.bipush 100, 2) := by decide +kernel
theorem dX12_itemOf_153 : decode cX12_itemOf 153 = .ok (.if_icmp .ne 7, 3) := by decide +kernel
theorem dX12_itemOf_156 : decode cX12_itemOf 156 = .ok (.iconst 3, 1) := by decide +kernel
theorem dX12_itemOf_157 : decode cX12_itemOf 157 = .ok (.goto 4, 3) := by decide +kernel
theorem dX12_itemOf_160 : decode cX12_itemOf 160 = .ok (.iconst (-1), 1) := by decide +kernel
theorem dX12_itemOf_161 : decode cX12_itemOf 161 = .ok (.ireturn, 1) := by decide +kernel
theorem dX12_itemOf_162 : decode cX12_itemOf 162 = .ok (.iload_n 1, 1) := by decide +kernel
theorem dX12_itemOf_163 : decode cX12_itemOf 163 = .ok (.bipush 97, 2) := by decide +kernel
theorem dX12_itemOf_165 : decode cX12_itemOf 165 = .ok (.if_icmp .ne 7, 3) := by decide +kernel
theorem dX12_itemOf_168 : decode cX12_itemOf 168 = .ok (.iconst 0, 1) := by decide +kernel
theorem dX12_itemOf_169 : decode cX12_itemOf 169 = .ok (.goto 4, 3) := by decide +kernel
theorem dX12_itemOf_172 : decode cX12_itemOf 172 = .ok (.iconst (-1), 1) := by decide +kernel
theorem dX12_itemOf_173 : decode cX12_itemOf 173 = .ok (.ireturn, 1) := by decide +kernel
theorem dX12_lowest_0 : decode cX12_lowest 0 = .ok (.iload_n 0, 1) := by decide +kernel
theorem dX12_lowest_1 : decode cX12_lowest 1 = .ok (.bipush 110, 2) := by decide +kernel
theorem dX12_lowest_3 : decode cX12_lowest 3 = .ok (.if_icmp .ne 8, 3) := by decide +kernel
theorem dX12_lowest_6 : decode cX12_lowest 6 = .ok (.iload_n 1, 1) := by decide +kernel
theorem dX12_lowest_7 : decode cX12_lowest 7 = .ok (.iconst 1, 1) := by decide +kernel
theorem dX12_lowest_8 : decode cX12_lowest 8 = .ok (.if_icmp .le 14, 3) := by decide +kernel
theorem dX12_lowest_11 : decode cX12_lowest 11 = .ok (.iload_n 0, 1) := by decide +kernel
theorem dX12_lowest_12 : decode cX12_lowest 12 = .ok (.bipush 116, 2) := by decide +kernel
theorem dX12_lowest_14 : decode cX12_lowest 14 = .ok (.if_icmp .ne 12, 3) := by decide +kernel
theorem dX12_lowest_17 : decode cX12_lowest 17 = .ok (.iload_n 1, 1) := by decide +kernel
theorem dX12_lowest_18 : decode cX12_lowest 18 = .ok (.iconst 3, 1) := by decide +kernel
theorem dX12_lowest_19 : decode cX12_lowest 19 = .ok (.if_icmp .ne 7, 3) := by decide +kernel
theorem dX12_lowest_22 : decode cX12_lowest 22 = .ok (.iconst 1, 1) := by decide +kernel
theorem dX12_lowest_23 : decode cX12_lowest 23 = .ok (.goto 4, 3) := by decide +kernel
theorem dX12_lowest_26 : decode cX12_lowest 26 = .ok (.iconst 0, 1) := by decide +kernel
theorem dX12_lowest_27 : decode cX12_lowest 27 = .ok (.ireturn, 1) := by decide +kernel
theorem dX12_highest_0 : decode cX12_highest 0 = .ok (.iload_n 0, 1) := by decide +kernel
theorem dX12_highest_1 : decode cX12_highest 1 = .ok (.lookupswitch 128 #[(110, 35), (114, 97), (116, 66)], 35) := by decide +kernel
theorem dX12_highest_36 : decode cX12_highest 36 = .ok (.iload_n 1, 1) := by decide +kernel
theorem dX12_highest_37 : decode cX12_highest 37 = .ok (.ifCond .ne 8, 3) := by decide +kernel
theorem dX12_highest_40 : decode cX12_highest 40 = .ok (.bipush 8, 2) := by decide +kernel
theorem dX12_highest_42 : decode cX12_highest 42 = .ok (.goto 24, 3) := by decide +kernel
theorem dX12_highest_45 : decode cX12_highest 45 = .ok (.iload_n 1, 1) := by decide +kernel
theorem dX12_highest_46 : decode cX12_highest 46 = .ok (.iconst 1, 1) := by decide +kernel
theorem dX12_highest_47 : decode cX12_highest 47 = .ok (.if_icmp .ne 7, 3) := by decide +kernel
theorem dX12_highest_50 : decode cX12_highest 50 = .ok (.iconst 5, 1) := by decide +kernel
theorem dX12_highest_51 : decode cX12_highest 51 = .ok (.goto 15, 3) := by decide +kernel
theorem dX12_highest_54 : decode cX12_highest 54 = .ok (.iload_n 1, 1) := by decide +kernel
theorem dX12_highest_55 : decode cX12_highest 55 = .ok (.iconst 2, 1) := by decide +kernel
theorem dX12_highest_56 : decode cX12_highest 56 = .ok (.if_icmp .ne 8, 3) := by decide +kernel
theorem dX12_highest_59 : decode cX12_highest 59 = .ok (.bipush 23, 2) := by decide +kernel
theorem dX12_highest_61 : decode cX12_highest 61 = .ok (.goto 5, 3) := by decide +kernel
theorem dX12_highest_64 : decode cX12_highest 64 = .ok (.bipush 9, 2) := by decide +kernel
theorem dX12_highest_66 : decode cX12_highest 66 = .ok (.ireturn, 1) := by decide +kernel
theorem dX12_highest_67 : decode cX12_highest 67 = .ok (.iload_n 1, 1) := by decide +kernel
theorem dX12_highest_68 : decode cX12_highest 68 = .ok (.ifCond .ne 8, 3) := by decide +kernel
theorem dX12_highest_71 : decode cX12_highest 71 = .ok (.bipush 7, 2) := by decide +kernel
theorem dX12_highest_73 : decode cX12_highest 73 = .ok (.goto 24, 3) := by decide +kernel
theorem dX12_highest_76 : decode cX12_highest 76 = .ok (.iload_n 1, 1) := by decide +kernel
theorem dX12_highest_77 : decode cX12_highest 77 = .ok (.iconst 1, 1) := by decide +kernel
theorem dX12_highest_78 : decode cX12_highest 78 = .ok (.if_icmp .ne 7, 3) := by decide +kernel
theorem dX12_highest_81 : decode cX12_highest 81 = .ok (.iconst 4, 1) := by decide +kernel
theorem dX12_highest_82 : decode cX12_highest 82 = .ok (.goto 15, 3) := by decide +kernel
theorem dX12_highest_85 : decode cX12_highest 85 = .ok (.iload_n 1, 1) := by decide +kernel
theorem dX12_highest_86 : decode cX12_highest 86 = .ok (.iconst 2, 1) := by decide +kernel
theorem dX12_highest_87 : decode cX12_highest 87 = .ok (.if_icmp .ne 8, 3) := by decide +kernel
theorem dX12_highest_90 : decode cX12_highest 90 = .ok (.bipush 8, 2) := by decide +kernel
theorem dX12_highest_92 : decode cX12_highest 92 = .ok (.goto 5, 3) := by decide +kernel
theorem dX12_highest_95 : decode cX12_highest 95 = .ok (.bipush 9, 2) := by decide +kernel
theorem dX12_highest_97 : decode cX12_highest 97 = .ok (.ireturn, 1) := by decide +kernel
theorem dX12_highest_98 : decode cX12_highest 98 = .ok (.iload_n 1, 1) := by decide +kernel
theorem dX12_highest_99 : decode cX12_highest 99 = .ok (.ifCond .ne 8, 3) := by decide +kernel
theorem dX12_highest_102 : decode cX12_highest 102 = .ok (.bipush 7, 2) := by decide +kernel
theorem dX12_highest_104 : decode cX12_highest 104 = .ok (.goto 24, 3) := by decide +kernel
theorem dX12_highest_107 : decode cX12_highest 107 = .ok (.iload_n 1, 1) := by decide +kernel
theorem dX12_highest_108 : decode cX12_highest 108 = .ok (.iconst 1, 1) := by decide +kernel
theorem dX12_highest_109 : decode cX12_highest 109 = .ok (.if_icmp .ne 7, 3) := by decide +kernel
theorem dX12_highest_112 : decode cX12_highest 112 = .ok (.iconst 5, 1) := by decide +kernel
theorem dX12_highest_113 : decode cX12_highest 113 = .ok (.goto 15, 3) := by decide +kernel
theorem dX12_highest_116 : decode cX12_highest 116 = .ok (.iload_n 1, 1) := by decide +kernel
theorem dX12_highest_117 : decode cX12_highest 117 = .ok (.iconst 2, 1) := by decide +kernel
theorem dX12_highest_118 : decode cX12_highest 118 = .ok (.if_icmp .ne 8, 3) := by decide +kernel
theorem dX12_highest_121 : decode cX12_highest 121 = .ok (.bipush 99, 2) := by decide +kernel
theorem dX12_highest_123 : decode cX12_highest 123 = .ok (.goto 5, 3) := by decide +kernel
theorem dX12_highest_126 : decode cX12_highest 126 = .ok (.bipush 9, 2) := by decide +kernel
theorem dX12_highest_128 : decode cX12_highest 128 = .ok (.ireturn, 1) := by decide +kernel
theorem dX12_highest_129 : decode cX12_highest 129 = .ok (.bipush 7, 2) := by decide +kernel
theorem dX12_highest_131 : decode cX12_highest 131 = .ok (.ireturn, 1) := by decide +kernel
theorem dX12_usual_0 : decode cX12_usual 0 = .ok (.iload_n 0, 1) := by decide +kernel
theorem dX12_usual_1 : decode cX12_usual 1 = .ok (.lookupswitch 76 #[(110, 35), (114, 65), (116, 54)], 35) := by decide +kernel
theorem dX12_usual_36 : decode cX12_usual 36 = .ok (.iload_n 1, 1) := by decide +kernel
theorem dX12_usual_37 : decode cX12_usual 37 = .ok (.ifCond .ne 7, 3) := by decide +kernel
theorem dX12_usual_40 : decode cX12_usual 40 = .ok (.iconst 4, 1) := by decide +kernel
theorem dX12_usual_41 : decode cX12_usual 41 = .ok (.goto 13, 3) := by decide +kernel
theorem dX12_usual_44 : decode cX12_usual 44 = .ok (.iload_n 1, 1) := by decide +kernel
theorem dX12_usual_45 : decode cX12_usual 45 = .ok (.iconst 1, 1) := by decide +kernel
theorem dX12_usual_46 : decode cX12_usual 46 = .ok (.if_icmp .ne 7, 3) := by decide +kernel
theorem dX12_usual_49 : decode cX12_usual 49 = .ok (.iconst 3, 1) := by decide +kernel
theorem dX12_usual_50 : decode cX12_usual 50 = .ok (.goto 4, 3) := by decide +kernel
theorem dX12_usual_53 : decode cX12_usual 53 = .ok (.iconst 0, 1) := by decide +kernel
theorem dX12_usual_54 : decode cX12_usual 54 = .ok (.ireturn, 1) := by decide +kernel
theorem dX12_usual_55 : decode cX12_usual 55 = .ok (.iload_n 1, 1) := by decide +kernel
theorem dX12_usual_56 : decode cX12_usual 56 = .ok (.iconst 1, 1) := by decide +kernel
theorem dX12_usual_57 : decode cX12_usual 57 = .ok (.if_icmp .le 7, 3) := by decide +kernel
theorem dX12_usual_60 : decode cX12_usual 60 = .ok (.iconst 1, 1) := by decide +kernel
theorem dX12_usual_61 : decode cX12_usual 61 = .ok (.goto 4, 3) := by decide +kernel
theorem dX12_usual_64 : decode cX12_usual 64 = .ok (.iconst 0, 1) := by decide +kernel
theorem dX12_usual_65 : decode cX12_usual 65 = .ok (.ireturn, 1) := by decide +kernel
theorem dX12_usual_66 : decode cX12_usual 66 = .ok (.iload_n 1, 1) := by decide +kernel
theorem dX12_usual_67 : decode cX12_usual 67 = .ok (.iconst 3, 1) := by decide +kernel
theorem dX12_usual_68 : decode cX12_usual 68 = .ok (.if_icmp .ne 7, 3) := by decide +kernel
theorem dX12_usual_71 : decode cX12_usual 71 = .ok (.iconst 3, 1) := by decide +kernel
theorem dX12_usual_72 : decode cX12_usual 72 = .ok (.goto 4, 3) := by decide +kernel
theorem dX12_usual_75 : decode cX12_usual 75 = .ok (.iconst 0, 1) := by decide +kernel
theorem dX12_usual_76 : decode cX12_usual 76 = .ok (.ireturn, 1) := by decide +kernel
theorem dX12_usual_77 : decode cX12_usual 77 = .ok (.iconst 0, 1) := by decide +kernel
theorem dX12_usual_78 : decode cX12_usual 78 = .ok (.ireturn, 1) := by decide +kernel
theorem dX12_items_0 : decode cX12_items 0 = .ok (.iconst 0, 1) := by decide +kernel
theorem dX12_items_1 : decode cX12_items 1 = .ok (.istore 5, 2) := by decide +kernel
theorem dX12_items_3 : decode cX12_items 3 = .ok (.iload 5, 2) := by decide +kernel
theorem dX12_items_5 : decode cX12_items 5 = .ok (.iload 4, 2) := by decide +kernel
theorem dX12_items_7 : decode cX12_items 7 = .ok (.if_icmp .ge 21, 3) := by decide +kernel
theorem dX12_items_10 : decode cX12_items 10 = .ok (.aload_n 2, 1) := by decide +kernel
theorem dX12_items_11 : decode cX12_items 11 = .ok (.iload_n 3, 1) := by decide +kernel
theorem dX12_items_12 : decode cX12_items 12 = .ok (.iload 5, 2) := by decide +kernel
theorem dX12_items_14 : decode cX12_items 14 = .ok (.iadd, 1) := by decide +kernel
theorem dX12_items_15 : decode cX12_items 15 = .ok (.iload_n 1, 1) := by decide +kernel
theorem dX12_items_16 : decode cX12_items 16 = .ok (.iload 5, 2) := by decide +kernel
theorem dX12_items_18 : decode cX12_items 18 = .ok (.invokestatic 242, 3) := by decide +kernel
theorem dX12_items_21 : decode cX12_items 21 = .ok (.iastore, 1) := by decide +kernel
theorem dX12_items_22 : decode cX12_items 22 = .ok (.iinc 5 1, 3) := by decide +kernel
theorem dX12_items_25 : decode cX12_items 25 = .ok (.goto (-22), 3) := by decide +kernel
theorem dX12_items_28 : decode cX12_items 28 = .ok (.iconst 0, 1) := by decide +kernel
theorem dX12_items_29 : decode cX12_items 29 = .ok (.istore 5, 2) := by decide +kernel
theorem dX12_items_31 : decode cX12_items 31 = .ok (.iload_n 1, 1) := by decide +kernel
theorem dX12_items_32 : decode cX12_items 32 = .ok (.aload_n 0, 1) := by decide +kernel
theorem dX12_items_33 : decode cX12_items 33 = .ok (.invokevirtual 152, 3) := by decide +kernel
theorem dX12_items_36 : decode cX12_items 36 = .ok (.invokestatic 246, 3) := by decide +kernel
theorem dX12_items_39 : decode cX12_items 39 = .ok (.istore 6, 2) := by decide +kernel
theorem dX12_items_41 : decode cX12_items 41 = .ok (.aload_n 0, 1) := by decide +kernel
theorem dX12_items_42 : decode cX12_items 42 = .ok (.getfield 140, 3) := by decide +kernel
theorem dX12_items_45 : decode cX12_items 45 = .ok (.iconst (-1), 1) := by decide +kernel
theorem dX12_items_46 : decode cX12_items 46 = .ok (.if_icmp .ne 85, 3) := by decide +kernel
theorem dX12_items_49 : decode cX12_items 49 = .ok (.iload 6, 2) := by decide +kernel
theorem dX12_items_51 : decode cX12_items 51 = .ok (.iconst (-1), 1) := by decide +kernel
theorem dX12_items_52 : decode cX12_items 52 = .ok (.if_icmp .eq 79, 3) := by decide +kernel
theorem dX12_items_55 : decode cX12_items 55 = .ok (.iload 5, 2) := by decide +kernel
theorem dX12_items_57 : decode cX12_items 57 = .ok (.iload 6, 2) := by decide +kernel
theorem dX12_items_59 : decode cX12_items 59 = .ok (.invokestatic 249, 3) := by decide +kernel
theorem dX12_items_62 : decode cX12_items 62 = .ok (.ifCond .ne 69, 3) := by decide +kernel
theorem dX12_items_65 : decode cX12_items 65 = .ok (.iload 5, 2) := by decide +kernel
theorem dX12_items_67 : decode cX12_items 67 = .ok (.iconst 1, 1) := by decide +kernel
theorem dX12_items_68 : decode cX12_items 68 = .ok (.iload 6, 2) := by decide +kernel
theorem dX12_items_70 : decode cX12_items 70 = .ok (.ishl, 1) := by decide +kernel
theorem dX12_items_71 : decode cX12_items 71 = .ok (.ior, 1) := by decide +kernel
theorem dX12_items_72 : decode cX12_items 72 = .ok (.istore 5, 2) := by decide +kernel
theorem dX12_items_74 : decode cX12_items 74 = .ok (.aload_n 0, 1) := by decide +kernel
theorem dX12_items_75 : decode cX12_items 75 = .ok (.dup, 1) := by decide +kernel
theorem dX12_items_76 : decode cX12_items 76 = .ok (.getfield 133, 3) := by decide +kernel
theorem dX12_items_79 : decode cX12_items 79 = .ok (.iconst 1, 1) := by decide +kernel
theorem dX12_items_80 : decode cX12_items 80 = .ok (.iadd, 1) := by decide +kernel
theorem dX12_items_81 : decode cX12_items 81 = .ok (.putfield 133, 3) := by decide +kernel
theorem dX12_items_84 : decode cX12_items 84 = .ok (.aload_n 2, 1) := by decide +kernel
theorem dX12_items_85 : decode cX12_items 85 = .ok (.iload_n 3, 1) := by decide +kernel
theorem dX12_items_86 : decode cX12_items 86 = .ok (.iload 6, 2) := by decide +kernel
theorem dX12_items_88 : decode cX12_items 88 = .ok (.iadd, 1) := by decide +kernel
theorem dX12_items_89 : decode cX12_items 89 = .ok (.aload_n 0, 1) := by decide +kernel
theorem dX12_items_90 : decode cX12_items 90 = .ok (.iload_n 1, 1) := by decide +kernel
theorem dX12_items_91 : decode cX12_items 91 = .ok (.iload 6, 2) := by decide +kernel
theorem dX12_items_93 : decode cX12_items 93 = .ok (.invokestatic 253, 3) := by decide +kernel
theorem dX12_items_96 : decode cX12_items 96 = .ok (.iload_n 1, 1) := by decide +kernel
theorem dX12_items_97 : decode cX12_items 97 = .ok (.iload 6, 2) := by decide +kernel
theorem dX12_items_99 : decode cX12_items 99 = .ok (.invokestatic 256, 3) := by decide +kernel
theorem dX12_items_102 : decode cX12_items 102 = .ok (.invokevirtual 259, 3) := by decide +kernel
theorem dX12_items_105 : decode cX12_items 105 = .ok (.iastore, 1) := by decide +kernel
theorem dX12_items_106 : decode cX12_items 106 = .ok (.aload_n 0, 1) := by decide +kernel
theorem dX12_items_107 : decode cX12_items 107 = .ok (.getfield 140, 3) := by decide +kernel
theorem dX12_items_110 : decode cX12_items 110 = .ok (.iconst (-1), 1) := by decide +kernel
theorem dX12_items_111 : decode cX12_items 111 = .ok (.if_icmp .ne 14, 3) := by decide +kernel
theorem dX12_items_114 : decode cX12_items 114 = .ok (.iload_n 1, 1) := by decide +kernel
theorem dX12_items_115 : decode cX12_items 115 = .ok (.aload_n 0, 1) := by decide +kernel
theorem dX12_items_116 : decode cX12_items 116 = .ok (.invokevirtual 152, 3) := by decide +kernel
theorem dX12_items_119 : decode cX12_items 119 = .ok (.invokestatic 246, 3) := by decide +kernel
theorem dX12_items_122 : decode cX12_items 122 = .ok (.goto 4, 3) := by decide +kernel
theorem dX12_items_125 : decode cX12_items 125 = .ok (.iconst (-1), 1) := by decide +kernel
theorem dX12_items_126 : decode cX12_items 126 = .ok (.istore 6, 2) := by decide +kernel
theorem dX12_items_128 : decode cX12_items 128 = .ok (.goto (-87), 3) := by decide +kernel
theorem dX12_items_131 : decode cX12_items 131 = .ok (.return_, 1) := by decide +kernel
theorem dX12_isWhole_0 : decode cX12_isWhole 0 = .ok (.aload_n 0, 1) := by decide +kernel
theorem dX12_isWhole_1 : decode cX12_isWhole 1 = .ok (.getfield 40, 3) := by decide +kernel
theorem dX12_isWhole_4 : decode cX12_isWhole 4 = .ok (.iconst 0, 1) := by decide +kernel
theorem dX12_isWhole_5 : decode cX12_isWhole 5 = .ok (.iaload, 1) := by decide +kernel
theorem dX12_isWhole_6 : decode cX12_isWhole 6 = .ok (.istore_n 1, 1) := by decide +kernel
theorem dX12_isWhole_7 : decode cX12_isWhole 7 = .ok (.iconst 0, 1) := by decide +kernel
theorem dX12_isWhole_8 : decode cX12_isWhole 8 = .ok (.istore_n 2, 1) := by decide +kernel
theorem dX12_isWhole_9 : decode cX12_isWhole 9 = .ok (.iconst 1, 1) := by decide +kernel
theorem dX12_isWhole_10 : decode cX12_isWhole 10 = .ok (.istore_n 3, 1) := by decide +kernel
theorem dX12_isWhole_11 : decode cX12_isWhole 11 = .ok (.iconst 0, 1) := by decide +kernel
theorem dX12_isWhole_12 : decode cX12_isWhole 12 = .ok (.istore 4, 2) := by decide +kernel
theorem dX12_isWhole_14 : decode cX12_isWhole 14 = .ok (.iload 4, 2) := by decide +kernel
theorem dX12_isWhole_16 : decode cX12_isWhole 16 = .ok (.aload_n 0, 1) := by decide +kernel
theorem dX12_isWhole_17 : decode cX12_isWhole 17 = .ok (.getfield 262, 3) := by decide +kernel
theorem dX12_isWhole_20 : decode cX12_isWhole 20 = .ok (.if_icmp .ge 165, 3) := by decide +kernel
theorem dX12_isWhole_23 : decode cX12_isWhole 23 = .ok (.aload_n 0, 1) := by decide +kernel
theorem dX12_isWhole_24 : decode cX12_isWhole 24 = .ok (.getfield 43, 3) := by decide +kernel
theorem dX12_isWhole_27 : decode cX12_isWhole 27 = .ok (.iconst 4, 1) := by decide +kernel
theorem dX12_isWhole_28 : decode cX12_isWhole 28 = .ok (.iload 4, 2) := by decide +kernel
theorem dX12_isWhole_30 : decode cX12_isWhole 30 = .ok (.imul, 1) := by decide +kernel
theorem dX12_isWhole_31 : decode cX12_isWhole 31 = .ok (.iconst 2, 1) := by decide +kernel
theorem dX12_isWhole_32 : decode cX12_isWhole 32 = .ok (.iadd, 1) := by decide +kernel
theorem dX12_isWhole_33 : decode cX12_isWhole 33 = .ok (.iaload, 1) := by decide +kernel
theorem dX12_isWhole_34 : decode cX12_isWhole 34 = .ok (.istore 5, 2) := by decide +kernel
theorem dX12_isWhole_36 : decode cX12_isWhole 36 = .ok (.iload_n 3, 1) := by decide +kernel
theorem dX12_isWhole_37 : decode cX12_isWhole 37 = .ok (.ifCond .eq 53, 3) := by decide +kernel
theorem dX12_isWhole_40 : decode cX12_isWhole 40 = .ok (.aload_n 0, 1) := by decide +kernel
theorem dX12_isWhole_41 : decode cX12_isWhole 41 = .ok (.getfield 43, 3) := by decide +kernel
theorem dX12_isWhole_44 : decode cX12_isWhole 44 = .ok (.iconst 4, 1) := by decide +kernel
theorem dX12_isWhole_45 : decode cX12_isWhole 45 = .ok (.iload 4, 2) := by decide +kernel
theorem dX12_isWhole_47 : decode cX12_isWhole 47 = .ok (.imul, 1) := by decide +kernel
theorem dX12_isWhole_48 : decode cX12_isWhole 48 = .ok (.iaload, 1) := by decide +kernel
theorem dX12_isWhole_49 : decode cX12_isWhole 49 = .ok (.iload_n 1, 1) := by decide +kernel
theorem dX12_isWhole_50 : decode cX12_isWhole 50 = .ok (.if_icmp .ge 40, 3) := by decide +kernel
theorem dX12_isWhole_53 : decode cX12_isWhole 53 = .ok (.aload_n 0, 1) := by decide +kernel
theorem dX12_isWhole_54 : decode cX12_isWhole 54 = .ok (.getfield 43, 3) := by decide +kernel
theorem dX12_isWhole_57 : decode cX12_isWhole 57 = .ok (.iconst 4, 1) := by decide +kernel
theorem dX12_isWhole_58 : decode cX12_isWhole 58 = .ok (.iload 4, 2) := by decide +kernel
theorem dX12_isWhole_60 : decode cX12_isWhole 60 = .ok (.imul, 1) := by decide +kernel
theorem dX12_isWhole_61 : decode cX12_isWhole 61 = .ok (.iconst 1, 1) := by decide +kernel
theorem dX12_isWhole_62 : decode cX12_isWhole 62 = .ok (.iadd, 1) := by decide +kernel
theorem dX12_isWhole_63 : decode cX12_isWhole 63 = .ok (.iaload, 1) := by decide +kernel
theorem dX12_isWhole_64 : decode cX12_isWhole 64 = .ok (.aload_n 0, 1) := by decide +kernel
theorem dX12_isWhole_65 : decode cX12_isWhole 65 = .ok (.getfield 40, 3) := by decide +kernel
theorem dX12_isWhole_68 : decode cX12_isWhole 68 = .ok (.iconst 1, 1) := by decide +kernel
theorem dX12_isWhole_69 : decode cX12_isWhole 69 = .ok (.iaload, 1) := by decide +kernel
theorem dX12_isWhole_70 : decode cX12_isWhole 70 = .ok (.if_icmp .ge 20, 3) := by decide +kernel
theorem dX12_isWhole_73 : decode cX12_isWhole 73 = .ok (.iload 5, 2) := by decide +kernel
theorem dX12_isWhole_75 : decode cX12_isWhole 75 = .ok (.bipush 8, 2) := by decide +kernel
theorem dX12_isWhole_77 : decode cX12_isWhole 77 = .ok (.if_icmp .eq 9, 3) := by decide +kernel
theorem dX12_isWhole_80 : decode cX12_isWhole 80 = .ok (.iload 5, 2) := by decide +kernel
theorem dX12_isWhole_82 : decode cX12_isWhole 82 = .ok (.iload_n 1, 1) := by decide +kernel
theorem dX12_isWhole_83 : decode cX12_isWhole 83 = .ok (.if_icmp .ge 7, 3) := by decide +kernel
theorem dX12_isWhole_86 : decode cX12_isWhole 86 = .ok (.iconst 1, 1) := by decide +kernel
theorem dX12_isWhole_87 : decode cX12_isWhole 87 = .ok (.goto 4, 3) := by decide +kernel
theorem dX12_isWhole_90 : decode cX12_isWhole 90 = .ok (.iconst 0, 1) := by decide +kernel
theorem dX12_isWhole_91 : decode cX12_isWhole 91 = .ok (.istore_n 3, 1) := by decide +kernel
theorem dX12_isWhole_92 : decode cX12_isWhole 92 = .ok (.iload_n 2, 1) := by decide +kernel
theorem dX12_isWhole_93 : decode cX12_isWhole 93 = .ok (.iload 5, 2) := by decide +kernel
theorem dX12_isWhole_95 : decode cX12_isWhole 95 = .ok (.bipush 8, 2) := by decide +kernel
theorem dX12_isWhole_97 : decode cX12_isWhole 97 = .ok (.if_icmp .ne 7, 3) := by decide +kernel
theorem dX12_isWhole_100 : decode cX12_isWhole 100 = .ok (.iconst 1, 1) := by decide +kernel
theorem dX12_isWhole_101 : decode cX12_isWhole 101 = .ok (.goto 4, 3) := by decide +kernel
theorem dX12_isWhole_104 : decode cX12_isWhole 104 = .ok (.iconst 0, 1) := by decide +kernel
theorem dX12_isWhole_105 : decode cX12_isWhole 105 = .ok (.iadd, 1) := by decide +kernel
theorem dX12_isWhole_106 : decode cX12_isWhole 106 = .ok (.istore_n 2, 1) := by decide +kernel
theorem dX12_isWhole_107 : decode cX12_isWhole 107 = .ok (.iconst 0, 1) := by decide +kernel
theorem dX12_isWhole_108 : decode cX12_isWhole 108 = .ok (.istore 6, 2) := by decide +kernel
theorem dX12_isWhole_110 : decode cX12_isWhole 110 = .ok (.iload 6, 2) := by decide +kernel
theorem dX12_isWhole_112 : decode cX12_isWhole 112 = .ok (.iload 4, 2) := by decide +kernel
theorem dX12_isWhole_114 : decode cX12_isWhole 114 = .ok (.if_icmp .ge 65, 3) := by decide +kernel
theorem dX12_isWhole_117 : decode cX12_isWhole 117 = .ok (.iload_n 3, 1) := by decide +kernel
theorem dX12_isWhole_118 : decode cX12_isWhole 118 = .ok (.ifCond .eq 53, 3) := by decide +kernel
theorem dX12_isWhole_121 : decode cX12_isWhole 121 = .ok (.aload_n 0, 1) := by decide +kernel
theorem dX12_isWhole_122 : decode cX12_isWhole 122 = .ok (.getfield 43, 3) := by decide +kernel
theorem dX12_isWhole_125 : decode cX12_isWhole 125 = .ok (.iconst 4, 1) := by decide +kernel
theorem dX12_isWhole_126 : decode cX12_isWhole 126 = .ok (.iload 6, 2) := by decide +kernel
theorem dX12_isWhole_128 : decode cX12_isWhole 128 = .ok (.imul, 1) := by decide +kernel
theorem dX12_isWhole_129 : decode cX12_isWhole 129 = .ok (.iaload, 1) := by decide +kernel
theorem dX12_isWhole_130 : decode cX12_isWhole 130 = .ok (.aload_n 0, 1) := by decide +kernel
theorem dX12_isWhole_131 : decode cX12_isWhole 131 = .ok (.getfield 43, 3) := by decide +kernel
theorem dX12_isWhole_134 : decode cX12_isWhole 134 = .ok (.iconst 4, 1) := by decide +kernel
theorem dX12_isWhole_135 : decode cX12_isWhole 135 = .ok (.iload 4, 2) := by decide +kernel
theorem dX12_isWhole_137 : decode cX12_isWhole 137 = .ok (.imul, 1) := by decide +kernel
theorem dX12_isWhole_138 : decode cX12_isWhole 138 = .ok (.iaload, 1) := by decide +kernel
theorem dX12_isWhole_139 : decode cX12_isWhole 139 = .ok (.if_icmp .ne 28, 3) := by decide +kernel
theorem dX12_isWhole_142 : decode cX12_isWhole 142 = .ok (.aload_n 0, 1) := by decide +kernel
theorem dX12_isWhole_143 : decode cX12_isWhole 143 = .ok (.getfield 43, 3) := by decide +kernel
theorem dX12_isWhole_146 : decode cX12_isWhole 146 = .ok (.iconst 4, 1) := by decide +kernel
theorem dX12_isWhole_147 : decode cX12_isWhole 147 = .ok (.iload 6, 2) := by decide +kernel
theorem dX12_isWhole_149 : decode cX12_isWhole 149 = .ok (.imul, 1) := by decide +kernel
theorem dX12_isWhole_150 : decode cX12_isWhole 150 = .ok (.iconst 1, 1) := by decide +kernel
theorem dX12_isWhole_151 : decode cX12_isWhole 151 = .ok (.iadd, 1) := by decide +kernel
theorem dX12_isWhole_152 : decode cX12_isWhole 152 = .ok (.iaload, 1) := by decide +kernel
theorem dX12_isWhole_153 : decode cX12_isWhole 153 = .ok (.aload_n 0, 1) := by decide +kernel
theorem dX12_isWhole_154 : decode cX12_isWhole 154 = .ok (.getfield 43, 3) := by decide +kernel
theorem dX12_isWhole_157 : decode cX12_isWhole 157 = .ok (.iconst 4, 1) := by decide +kernel
theorem dX12_isWhole_158 : decode cX12_isWhole 158 = .ok (.iload 4, 2) := by decide +kernel
theorem dX12_isWhole_160 : decode cX12_isWhole 160 = .ok (.imul, 1) := by decide +kernel
theorem dX12_isWhole_161 : decode cX12_isWhole 161 = .ok (.iconst 1, 1) := by decide +kernel
theorem dX12_isWhole_162 : decode cX12_isWhole 162 = .ok (.iadd, 1) := by decide +kernel
theorem dX12_isWhole_163 : decode cX12_isWhole 163 = .ok (.iaload, 1) := by decide +kernel
theorem dX12_isWhole_164 : decode cX12_isWhole 164 = .ok (.if_icmp .eq 7, 3) := by decide +kernel
theorem dX12_isWhole_167 : decode cX12_isWhole 167 = .ok (.iconst 1, 1) := by decide +kernel
theorem dX12_isWhole_168 : decode cX12_isWhole 168 = .ok (.goto 4, 3) := by decide +kernel
theorem dX12_isWhole_171 : decode cX12_isWhole 171 = .ok (.iconst 0, 1) := by decide +kernel
theorem dX12_isWhole_172 : decode cX12_isWhole 172 = .ok (.istore_n 3, 1) := by decide +kernel
theorem dX12_isWhole_173 : decode cX12_isWhole 173 = .ok (.iinc 6 1, 3) := by decide +kernel
theorem dX12_isWhole_176 : decode cX12_isWhole 176 = .ok (.goto (-66), 3) := by decide +kernel
theorem dX12_isWhole_179 : decode cX12_isWhole 179 = .ok (.iinc 4 1, 3) := by decide +kernel
theorem dX12_isWhole_182 : decode cX12_isWhole 182 = .ok (.goto (-168), 3) := by decide +kernel
theorem dX12_isWhole_185 : decode cX12_isWhole 185 = .ok (.iconst 0, 1) := by decide +kernel
theorem dX12_isWhole_186 : decode cX12_isWhole 186 = .ok (.istore 4, 2) := by decide +kernel
theorem dX12_isWhole_188 : decode cX12_isWhole 188 = .ok (.iload 4, 2) := by decide +kernel
theorem dX12_isWhole_190 : decode cX12_isWhole 190 = .ok (.aload_n 0, 1) := by decide +kernel
theorem dX12_isWhole_191 : decode cX12_isWhole 191 = .ok (.getfield 265, 3) := by decide +kernel
theorem dX12_isWhole_194 : decode cX12_isWhole 194 = .ok (.if_icmp .ge 62, 3) := by decide +kernel
theorem dX12_isWhole_197 : decode cX12_isWhole 197 = .ok (.aload_n 0, 1) := by decide +kernel
theorem dX12_isWhole_198 : decode cX12_isWhole 198 = .ok (.getfield 46, 3) := by decide +kernel
theorem dX12_isWhole_201 : decode cX12_isWhole 201 = .ok (.iconst 4, 1) := by decide +kernel
theorem dX12_isWhole_202 : decode cX12_isWhole 202 = .ok (.iload 4, 2) := by decide +kernel
theorem dX12_isWhole_204 : decode cX12_isWhole 204 = .ok (.imul, 1) := by decide +kernel
theorem dX12_isWhole_205 : decode cX12_isWhole 205 = .ok (.iconst 1, 1) := by decide +kernel
theorem dX12_isWhole_206 : decode cX12_isWhole 206 = .ok (.iadd, 1) := by decide +kernel
theorem dX12_isWhole_207 : decode cX12_isWhole 207 = .ok (.iaload, 1) := by decide +kernel
theorem dX12_isWhole_208 : decode cX12_isWhole 208 = .ok (.istore 5, 2) := by decide +kernel
theorem dX12_isWhole_210 : decode cX12_isWhole 210 = .ok (.iload_n 3, 1) := by decide +kernel
theorem dX12_isWhole_211 : decode cX12_isWhole 211 = .ok (.ifCond .eq 37, 3) := by decide +kernel
theorem dX12_isWhole_214 : decode cX12_isWhole 214 = .ok (.aload_n 0, 1) := by decide +kernel
theorem dX12_isWhole_215 : decode cX12_isWhole 215 = .ok (.getfield 46, 3) := by decide +kernel
theorem dX12_isWhole_218 : decode cX12_isWhole 218 = .ok (.iconst 4, 1) := by decide +kernel
theorem dX12_isWhole_219 : decode cX12_isWhole 219 = .ok (.iload 4, 2) := by decide +kernel
theorem dX12_isWhole_221 : decode cX12_isWhole 221 = .ok (.imul, 1) := by decide +kernel
theorem dX12_isWhole_222 : decode cX12_isWhole 222 = .ok (.iaload, 1) := by decide +kernel
theorem dX12_isWhole_223 : decode cX12_isWhole 223 = .ok (.iload_n 1, 1) := by decide +kernel
theorem dX12_isWhole_224 : decode cX12_isWhole 224 = .ok (.if_icmp .ge 24, 3) := by decide +kernel
theorem dX12_isWhole_227 : decode cX12_isWhole 227 = .ok (.iload 5, 2) := by decide +kernel
theorem dX12_isWhole_229 : decode cX12_isWhole 229 = .ok (.iconst 5, 1) := by decide +kernel
theorem dX12_isWhole_230 : decode cX12_isWhole 230 = .ok (.if_icmp .eq 14, 3) := by decide +kernel
theorem dX12_isWhole_233 : decode cX12_isWhole 233 = .ok (.iload 5, 2) := by decide +kernel
theorem dX12_isWhole_235 : decode cX12_isWhole 235 = .ok (.aload_n 0, 1) := by decide +kernel
theorem dX12_isWhole_236 : decode cX12_isWhole 236 = .ok (.getfield 40, 3) := by decide +kernel
theorem dX12_isWhole_239 : decode cX12_isWhole 239 = .ok (.iconst 1, 1) := by decide +kernel
theorem dX12_isWhole_240 : decode cX12_isWhole 240 = .ok (.iaload, 1) := by decide +kernel
theorem dX12_isWhole_241 : decode cX12_isWhole 241 = .ok (.if_icmp .ge 7, 3) := by decide +kernel
theorem dX12_isWhole_244 : decode cX12_isWhole 244 = .ok (.iconst 1, 1) := by decide +kernel
theorem dX12_isWhole_245 : decode cX12_isWhole 245 = .ok (.goto 4, 3) := by decide +kernel
theorem dX12_isWhole_248 : decode cX12_isWhole 248 = .ok (.iconst 0, 1) := by decide +kernel
theorem dX12_isWhole_249 : decode cX12_isWhole 249 = .ok (.istore_n 3, 1) := by decide +kernel
theorem dX12_isWhole_250 : decode cX12_isWhole 250 = .ok (.iinc 4 1, 3) := by decide +kernel
theorem dX12_isWhole_253 : decode cX12_isWhole 253 = .ok (.goto (-65), 3) := by decide +kernel
theorem dX12_isWhole_256 : decode cX12_isWhole 256 = .ok (.iconst 0, 1) := by decide +kernel
theorem dX12_isWhole_257 : decode cX12_isWhole 257 = .ok (.istore 4, 2) := by decide +kernel
theorem dX12_isWhole_259 : decode cX12_isWhole 259 = .ok (.iload 4, 2) := by decide +kernel
theorem dX12_isWhole_261 : decode cX12_isWhole 261 = .ok (.aload_n 0, 1) := by decide +kernel
theorem dX12_isWhole_262 : decode cX12_isWhole 262 = .ok (.getfield 268, 3) := by decide +kernel
theorem dX12_isWhole_265 : decode cX12_isWhole 265 = .ok (.if_icmp .ge 30, 3) := by decide +kernel
theorem dX12_isWhole_268 : decode cX12_isWhole 268 = .ok (.iload_n 3, 1) := by decide +kernel
theorem dX12_isWhole_269 : decode cX12_isWhole 269 = .ok (.ifCond .eq 18, 3) := by decide +kernel
theorem dX12_isWhole_272 : decode cX12_isWhole 272 = .ok (.aload_n 0, 1) := by decide +kernel
theorem dX12_isWhole_273 : decode cX12_isWhole 273 = .ok (.getfield 49, 3) := by decide +kernel
theorem dX12_isWhole_276 : decode cX12_isWhole 276 = .ok (.iload 4, 2) := by decide +kernel
theorem dX12_isWhole_278 : decode cX12_isWhole 278 = .ok (.iaload, 1) := by decide +kernel
theorem dX12_isWhole_279 : decode cX12_isWhole 279 = .ok (.iload_n 1, 1) := by decide +kernel
theorem dX12_isWhole_280 : decode cX12_isWhole 280 = .ok (.if_icmp .ge 7, 3) := by decide +kernel
theorem dX12_isWhole_283 : decode cX12_isWhole 283 = .ok (.iconst 1, 1) := by decide +kernel
theorem dX12_isWhole_284 : decode cX12_isWhole 284 = .ok (.goto 4, 3) := by decide +kernel
theorem dX12_isWhole_287 : decode cX12_isWhole 287 = .ok (.iconst 0, 1) := by decide +kernel
theorem dX12_isWhole_288 : decode cX12_isWhole 288 = .ok (.istore_n 3, 1) := by decide +kernel
theorem dX12_isWhole_289 : decode cX12_isWhole 289 = .ok (.iinc 4 1, 3) := by decide +kernel
theorem dX12_isWhole_292 : decode cX12_isWhole 292 = .ok (.goto (-33), 3) := by decide +kernel
theorem dX12_isWhole_295 : decode cX12_isWhole 295 = .ok (.iload_n 3, 1) := by decide +kernel
theorem dX12_isWhole_296 : decode cX12_isWhole 296 = .ok (.ifCond .eq 12, 3) := by decide +kernel
theorem dX12_isWhole_299 : decode cX12_isWhole 299 = .ok (.iload_n 2, 1) := by decide +kernel
theorem dX12_isWhole_300 : decode cX12_isWhole 300 = .ok (.iconst 4, 1) := by decide +kernel
theorem dX12_isWhole_301 : decode cX12_isWhole 301 = .ok (.if_icmp .gt 7, 3) := by decide +kernel
theorem dX12_isWhole_304 : decode cX12_isWhole 304 = .ok (.iconst 1, 1) := by decide +kernel
theorem dX12_isWhole_305 : decode cX12_isWhole 305 = .ok (.goto 4, 3) := by decide +kernel
theorem dX12_isWhole_308 : decode cX12_isWhole 308 = .ok (.iconst 0, 1) := by decide +kernel
theorem dX12_isWhole_309 : decode cX12_isWhole 309 = .ok (.ireturn, 1) := by decide +kernel
theorem dX12_readAll_0 : decode cX12_readAll 0 = .ok (.aload_n 0, 1) := by decide +kernel
theorem dX12_readAll_1 : decode cX12_readAll 1 = .ok (.iconst 0, 1) := by decide +kernel
theorem dX12_readAll_2 : decode cX12_readAll 2 = .ok (.putfield 133, 3) := by decide +kernel
theorem dX12_readAll_5 : decode cX12_readAll 5 = .ok (.aload_n 0, 1) := by decide +kernel
theorem dX12_readAll_6 : decode cX12_readAll 6 = .ok (.iconst (-1), 1) := by decide +kernel
theorem dX12_readAll_7 : decode cX12_readAll 7 = .ok (.putfield 140, 3) := by decide +kernel
theorem dX12_readAll_10 : decode cX12_readAll 10 = .ok (.aload_n 0, 1) := by decide +kernel
theorem dX12_readAll_11 : decode cX12_readAll 11 = .ok (.iconst 0, 1) := by decide +kernel
theorem dX12_readAll_12 : decode cX12_readAll 12 = .ok (.putfield 262, 3) := by decide +kernel
theorem dX12_readAll_15 : decode cX12_readAll 15 = .ok (.aload_n 0, 1) := by decide +kernel
theorem dX12_readAll_16 : decode cX12_readAll 16 = .ok (.iconst 0, 1) := by decide +kernel
theorem dX12_readAll_17 : decode cX12_readAll 17 = .ok (.putfield 265, 3) := by decide +kernel
theorem dX12_readAll_20 : decode cX12_readAll 20 = .ok (.aload_n 0, 1) := by decide +kernel
theorem dX12_readAll_21 : decode cX12_readAll 21 = .ok (.iconst 0, 1) := by decide +kernel
theorem dX12_readAll_22 : decode cX12_readAll 22 = .ok (.putfield 268, 3) := by decide +kernel
theorem dX12_readAll_25 : decode cX12_readAll 25 = .ok (.iconst 0, 1) := by decide +kernel
theorem dX12_readAll_26 : decode cX12_readAll 26 = .ok (.istore_n 1, 1) := by decide +kernel
theorem dX12_readAll_27 : decode cX12_readAll 27 = .ok (.iconst 0, 1) := by decide +kernel
theorem dX12_readAll_28 : decode cX12_readAll 28 = .ok (.istore_n 2, 1) := by decide +kernel
theorem dX12_readAll_29 : decode cX12_readAll 29 = .ok (.iload_n 2, 1) := by decide +kernel
theorem dX12_readAll_30 : decode cX12_readAll 30 = .ok (.iconst 4, 1) := by decide +kernel
theorem dX12_readAll_31 : decode cX12_readAll 31 = .ok (.if_icmp .ge 21, 3) := by decide +kernel
theorem dX12_readAll_34 : decode cX12_readAll 34 = .ok (.aload_n 0, 1) := by decide +kernel
theorem dX12_readAll_35 : decode cX12_readAll 35 = .ok (.getfield 40, 3) := by decide +kernel
theorem dX12_readAll_38 : decode cX12_readAll 38 = .ok (.iload_n 2, 1) := by decide +kernel
theorem dX12_readAll_39 : decode cX12_readAll 39 = .ok (.bipush 110, 2) := by decide +kernel
theorem dX12_readAll_41 : decode cX12_readAll 41 = .ok (.iload_n 2, 1) := by decide +kernel
theorem dX12_readAll_42 : decode cX12_readAll 42 = .ok (.invokestatic 242, 3) := by decide +kernel
theorem dX12_readAll_45 : decode cX12_readAll 45 = .ok (.iastore, 1) := by decide +kernel
theorem dX12_readAll_46 : decode cX12_readAll 46 = .ok (.iinc 2 1, 3) := by decide +kernel
theorem dX12_readAll_49 : decode cX12_readAll 49 = .ok (.goto (-20), 3) := by decide +kernel
theorem dX12_readAll_52 : decode cX12_readAll 52 = .ok (.iconst 1, 1) := by decide +kernel
theorem dX12_readAll_53 : decode cX12_readAll 53 = .ok (.istore_n 2, 1) := by decide +kernel
theorem dX12_readAll_54 : decode cX12_readAll 54 = .ok (.iload_n 2, 1) := by decide +kernel
theorem dX12_readAll_55 : decode cX12_readAll 55 = .ok (.ifCond .eq 259, 3) := by decide +kernel
theorem dX12_readAll_58 : decode cX12_readAll 58 = .ok (.aload_n 0, 1) := by decide +kernel
theorem dX12_readAll_59 : decode cX12_readAll 59 = .ok (.getfield 140, 3) := by decide +kernel
theorem dX12_readAll_62 : decode cX12_readAll 62 = .ok (.iconst (-1), 1) := by decide +kernel
theorem dX12_readAll_63 : decode cX12_readAll 63 = .ok (.if_icmp .ne 251, 3) := by decide +kernel
theorem dX12_readAll_66 : decode cX12_readAll 66 = .ok (.aload_n 0, 1) := by decide +kernel
theorem dX12_readAll_67 : decode cX12_readAll 67 = .ok (.invokevirtual 152, 3) := by decide +kernel
theorem dX12_readAll_70 : decode cX12_readAll 70 = .ok (.istore_n 3, 1) := by decide +kernel
theorem dX12_readAll_71 : decode cX12_readAll 71 = .ok (.iload_n 3, 1) := by decide +kernel
theorem dX12_readAll_72 : decode cX12_readAll 72 = .ok (.bipush 110, 2) := by decide +kernel
theorem dX12_readAll_74 : decode cX12_readAll 74 = .ok (.if_icmp .ne 33, 3) := by decide +kernel
theorem dX12_readAll_77 : decode cX12_readAll 77 = .ok (.iload_n 1, 1) := by decide +kernel
theorem dX12_readAll_78 : decode cX12_readAll 78 = .ok (.ifCond .ne 29, 3) := by decide +kernel
theorem dX12_readAll_81 : decode cX12_readAll 81 = .ok (.iconst 1, 1) := by decide +kernel
theorem dX12_readAll_82 : decode cX12_readAll 82 = .ok (.istore_n 1, 1) := by decide +kernel
theorem dX12_readAll_83 : decode cX12_readAll 83 = .ok (.aload_n 0, 1) := by decide +kernel
theorem dX12_readAll_84 : decode cX12_readAll 84 = .ok (.dup, 1) := by decide +kernel
theorem dX12_readAll_85 : decode cX12_readAll 85 = .ok (.getfield 133, 3) := by decide +kernel
theorem dX12_readAll_88 : decode cX12_readAll 88 = .ok (.iconst 1, 1) := by decide +kernel
theorem dX12_readAll_89 : decode cX12_readAll 89 = .ok (.iadd, 1) := by decide +kernel
theorem dX12_readAll_90 : decode cX12_readAll 90 = .ok (.putfield 133, 3) := by decide +kernel
theorem dX12_readAll_93 : decode cX12_readAll 93 = .ok (.aload_n 0, 1) := by decide +kernel
theorem dX12_readAll_94 : decode cX12_readAll 94 = .ok (.iload_n 3, 1) := by decide +kernel
theorem dX12_readAll_95 : decode cX12_readAll 95 = .ok (.aload_n 0, 1) := by decide +kernel
theorem dX12_readAll_96 : decode cX12_readAll 96 = .ok (.getfield 40, 3) := by decide +kernel
theorem dX12_readAll_99 : decode cX12_readAll 99 = .ok (.iconst 0, 1) := by decide +kernel
theorem dX12_readAll_100 : decode cX12_readAll 100 = .ok (.iconst 4, 1) := by decide +kernel
theorem dX12_readAll_101 : decode cX12_readAll 101 = .ok (.invokevirtual 271, 3) := by decide +kernel
theorem dX12_readAll_104 : decode cX12_readAll 104 = .ok (.goto 166, 3) := by decide +kernel
theorem dX12_readAll_107 : decode cX12_readAll 107 = .ok (.iload_n 3, 1) := by decide +kernel
theorem dX12_readAll_108 : decode cX12_readAll 108 = .ok (.bipush 116, 2) := by decide +kernel
theorem dX12_readAll_110 : decode cX12_readAll 110 = .ok (.if_icmp .ne 51, 3) := by decide +kernel
theorem dX12_readAll_113 : decode cX12_readAll 113 = .ok (.aload_n 0, 1) := by decide +kernel
theorem dX12_readAll_114 : decode cX12_readAll 114 = .ok (.getfield 262, 3) := by decide +kernel
theorem dX12_readAll_117 : decode cX12_readAll 117 = .ok (.bipush 18, 2) := by decide +kernel
theorem dX12_readAll_119 : decode cX12_readAll 119 = .ok (.if_icmp .ge 42, 3) := by decide +kernel
theorem dX12_readAll_122 : decode cX12_readAll 122 = .ok (.aload_n 0, 1) := by decide +kernel
theorem dX12_readAll_123 : decode cX12_readAll 123 = .ok (.dup, 1) := by decide +kernel
theorem dX12_readAll_124 : decode cX12_readAll 124 = .ok (.getfield 133, 3) := by decide +kernel
theorem dX12_readAll_127 : decode cX12_readAll 127 = .ok (.iconst 1, 1) := by decide +kernel
theorem dX12_readAll_128 : decode cX12_readAll 128 = .ok (.iadd, 1) := by decide +kernel
theorem dX12_readAll_129 : decode cX12_readAll 129 = .ok (.putfield 133, 3) := by decide +kernel
theorem dX12_readAll_132 : decode cX12_readAll 132 = .ok (.aload_n 0, 1) := by decide +kernel
theorem dX12_readAll_133 : decode cX12_readAll 133 = .ok (.iload_n 3, 1) := by decide +kernel
theorem dX12_readAll_134 : decode cX12_readAll 134 = .ok (.aload_n 0, 1) := by decide +kernel
theorem dX12_readAll_135 : decode cX12_readAll 135 = .ok (.getfield 43, 3) := by decide +kernel
theorem dX12_readAll_138 : decode cX12_readAll 138 = .ok (.iconst 4, 1) := by decide +kernel
theorem dX12_readAll_139 : decode cX12_readAll 139 = .ok (.aload_n 0, 1) := by decide +kernel
theorem dX12_readAll_140 : decode cX12_readAll 140 = .ok (.getfield 262, 3) := by decide +kernel
theorem dX12_readAll_143 : decode cX12_readAll 143 = .ok (.imul, 1) := by decide +kernel
theorem dX12_readAll_144 : decode cX12_readAll 144 = .ok (.iconst 4, 1) := by decide +kernel
theorem dX12_readAll_145 : decode cX12_readAll 145 = .ok (.invokevirtual 271, 3) := by decide +kernel
theorem dX12_readAll_148 : decode cX12_readAll 148 = .ok (.aload_n 0, 1) := by decide +kernel
theorem dX12_readAll_149 : decode cX12_readAll 149 = .ok (.dup, 1) := by decide +kernel
theorem dX12_readAll_150 : decode cX12_readAll 150 = .ok (.getfield 262, 3) := by decide +kernel
theorem dX12_readAll_153 : decode cX12_readAll 153 = .ok (.iconst 1, 1) := by decide +kernel
theorem dX12_readAll_154 : decode cX12_readAll 154 = .ok (.iadd, 1) := by decide +kernel
theorem dX12_readAll_155 : decode cX12_readAll 155 = .ok (.putfield 262, 3) := by decide +kernel
theorem dX12_readAll_158 : decode cX12_readAll 158 = .ok (.goto 112, 3) := by decide +kernel
theorem dX12_readAll_161 : decode cX12_readAll 161 = .ok (.iload_n 3, 1) := by decide +kernel
theorem dX12_readAll_162 : decode cX12_readAll 162 = .ok (.bipush 114, 2) := by decide +kernel
theorem dX12_readAll_164 : decode cX12_readAll 164 = .ok (.if_icmp .ne 51, 3) := by decide +kernel
theorem dX12_readAll_167 : decode cX12_readAll 167 = .ok (.aload_n 0, 1) := by decide +kernel
theorem dX12_readAll_168 : decode cX12_readAll 168 = .ok (.getfield 265, 3) := by decide +kernel
theorem dX12_readAll_171 : decode cX12_readAll 171 = .ok (.bipush 6, 2) := by decide +kernel
theorem dX12_readAll_173 : decode cX12_readAll 173 = .ok (.if_icmp .ge 42, 3) := by decide +kernel
theorem dX12_readAll_176 : decode cX12_readAll 176 = .ok (.aload_n 0, 1) := by decide +kernel
theorem dX12_readAll_177 : decode cX12_readAll 177 = .ok (.dup, 1) := by decide +kernel
theorem dX12_readAll_178 : decode cX12_readAll 178 = .ok (.getfield 133, 3) := by decide +kernel
theorem dX12_readAll_181 : decode cX12_readAll 181 = .ok (.iconst 1, 1) := by decide +kernel
theorem dX12_readAll_182 : decode cX12_readAll 182 = .ok (.iadd, 1) := by decide +kernel
theorem dX12_readAll_183 : decode cX12_readAll 183 = .ok (.putfield 133, 3) := by decide +kernel
theorem dX12_readAll_186 : decode cX12_readAll 186 = .ok (.aload_n 0, 1) := by decide +kernel
theorem dX12_readAll_187 : decode cX12_readAll 187 = .ok (.iload_n 3, 1) := by decide +kernel
theorem dX12_readAll_188 : decode cX12_readAll 188 = .ok (.aload_n 0, 1) := by decide +kernel
theorem dX12_readAll_189 : decode cX12_readAll 189 = .ok (.getfield 46, 3) := by decide +kernel
theorem dX12_readAll_192 : decode cX12_readAll 192 = .ok (.iconst 4, 1) := by decide +kernel
theorem dX12_readAll_193 : decode cX12_readAll 193 = .ok (.aload_n 0, 1) := by decide +kernel
theorem dX12_readAll_194 : decode cX12_readAll 194 = .ok (.getfield 265, 3) := by decide +kernel
theorem dX12_readAll_197 : decode cX12_readAll 197 = .ok (.imul, 1) := by decide +kernel
theorem dX12_readAll_198 : decode cX12_readAll 198 = .ok (.iconst 4, 1) := by decide +kernel
theorem dX12_readAll_199 : decode cX12_readAll 199 = .ok (.invokevirtual 271, 3) := by decide +kernel
theorem dX12_readAll_202 : decode cX12_readAll 202 = .ok (.aload_n 0, 1) := by decide +kernel
theorem dX12_readAll_203 : decode cX12_readAll 203 = .ok (.dup, 1) := by decide +kernel
theorem dX12_readAll_204 : decode cX12_readAll 204 = .ok (.getfield 265, 3) := by decide +kernel
theorem dX12_readAll_207 : decode cX12_readAll 207 = .ok (.iconst 1, 1) := by decide +kernel
theorem dX12_readAll_208 : decode cX12_readAll 208 = .ok (.iadd, 1) := by decide +kernel
theorem dX12_readAll_209 : decode cX12_readAll 209 = .ok (.putfield 265, 3) := by decide +kernel
theorem dX12_readAll_212 : decode cX12_readAll 212 = .ok (.goto 58, 3) := by decide +kernel
theorem dX12_readAll_215 : decode cX12_readAll 215 = .ok (.iload_n 3, 1) := by decide +kernel
theorem dX12_readAll_216 : decode cX12_readAll 216 = .ok (.bipush 103, 2) := by decide +kernel
theorem dX12_readAll_218 : decode cX12_readAll 218 = .ok (.if_icmp .ne 48, 3) := by decide +kernel
theorem dX12_readAll_221 : decode cX12_readAll 221 = .ok (.aload_n 0, 1) := by decide +kernel
theorem dX12_readAll_222 : decode cX12_readAll 222 = .ok (.getfield 268, 3) := by decide +kernel
theorem dX12_readAll_225 : decode cX12_readAll 225 = .ok (.iconst 4, 1) := by decide +kernel
theorem dX12_readAll_226 : decode cX12_readAll 226 = .ok (.if_icmp .ge 40, 3) := by decide +kernel
theorem dX12_readAll_229 : decode cX12_readAll 229 = .ok (.aload_n 0, 1) := by decide +kernel
theorem dX12_readAll_230 : decode cX12_readAll 230 = .ok (.dup, 1) := by decide +kernel
theorem dX12_readAll_231 : decode cX12_readAll 231 = .ok (.getfield 133, 3) := by decide +kernel
theorem dX12_readAll_234 : decode cX12_readAll 234 = .ok (.iconst 1, 1) := by decide +kernel
theorem dX12_readAll_235 : decode cX12_readAll 235 = .ok (.iadd, 1) := by decide +kernel
theorem dX12_readAll_236 : decode cX12_readAll 236 = .ok (.putfield 133, 3) := by decide +kernel
theorem dX12_readAll_239 : decode cX12_readAll 239 = .ok (.aload_n 0, 1) := by decide +kernel
theorem dX12_readAll_240 : decode cX12_readAll 240 = .ok (.iload_n 3, 1) := by decide +kernel
theorem dX12_readAll_241 : decode cX12_readAll 241 = .ok (.aload_n 0, 1) := by decide +kernel
theorem dX12_readAll_242 : decode cX12_readAll 242 = .ok (.getfield 49, 3) := by decide +kernel
theorem dX12_readAll_245 : decode cX12_readAll 245 = .ok (.aload_n 0, 1) := by decide +kernel
theorem dX12_readAll_246 : decode cX12_readAll 246 = .ok (.getfield 268, 3) := by decide +kernel
theorem dX12_readAll_249 : decode cX12_readAll 249 = .ok (.iconst 1, 1) := by decide +kernel
theorem dX12_readAll_250 : decode cX12_readAll 250 = .ok (.invokevirtual 271, 3) := by decide +kernel
theorem dX12_readAll_253 : decode cX12_readAll 253 = .ok (.aload_n 0, 1) := by decide +kernel
theorem dX12_readAll_254 : decode cX12_readAll 254 = .ok (.dup, 1) := by decide +kernel
theorem dX12_readAll_255 : decode cX12_readAll 255 = .ok (.getfield 268, 3) := by decide +kernel
theorem dX12_readAll_258 : decode cX12_readAll 258 = .ok (.iconst 1, 1) := by decide +kernel
theorem dX12_readAll_259 : decode cX12_readAll 259 = .ok (.iadd, 1) := by decide +kernel
theorem dX12_readAll_260 : decode cX12_readAll 260 = .ok (.putfield 268, 3) := by decide +kernel
theorem dX12_readAll_263 : decode cX12_readAll 263 = .ok (.goto 7, 3) := by decide +kernel
theorem dX12_readAll_266 : decode cX12_readAll 266 = .ok (.aload_n 0, 1) := by decide +kernel
theorem dX12_readAll_267 : decode cX12_readAll 267 = .ok (.invokevirtual 149, 3) := by decide +kernel
theorem dX12_readAll_270 : decode cX12_readAll 270 = .ok (.aload_n 0, 1) := by decide +kernel
theorem dX12_readAll_271 : decode cX12_readAll 271 = .ok (.getfield 140, 3) := by decide +kernel
theorem dX12_readAll_274 : decode cX12_readAll 274 = .ok (.iconst (-1), 1) := by decide +kernel
theorem dX12_readAll_275 : decode cX12_readAll 275 = .ok (.if_icmp .ne 16, 3) := by decide +kernel
theorem dX12_readAll_278 : decode cX12_readAll 278 = .ok (.aload_n 0, 1) := by decide +kernel
theorem dX12_readAll_279 : decode cX12_readAll 279 = .ok (.invokevirtual 152, 3) := by decide +kernel
theorem dX12_readAll_282 : decode cX12_readAll 282 = .ok (.bipush 59, 2) := by decide +kernel
theorem dX12_readAll_284 : decode cX12_readAll 284 = .ok (.if_icmp .ne 7, 3) := by decide +kernel
theorem dX12_readAll_287 : decode cX12_readAll 287 = .ok (.iconst 1, 1) := by decide +kernel
theorem dX12_readAll_288 : decode cX12_readAll 288 = .ok (.goto 4, 3) := by decide +kernel
theorem dX12_readAll_291 : decode cX12_readAll 291 = .ok (.iconst 0, 1) := by decide +kernel
theorem dX12_readAll_292 : decode cX12_readAll 292 = .ok (.istore_n 2, 1) := by decide +kernel
theorem dX12_readAll_293 : decode cX12_readAll 293 = .ok (.aload_n 0, 1) := by decide +kernel
theorem dX12_readAll_294 : decode cX12_readAll 294 = .ok (.dup, 1) := by decide +kernel
theorem dX12_readAll_295 : decode cX12_readAll 295 = .ok (.getfield 133, 3) := by decide +kernel
theorem dX12_readAll_298 : decode cX12_readAll 298 = .ok (.iload_n 2, 1) := by decide +kernel
theorem dX12_readAll_299 : decode cX12_readAll 299 = .ok (.ifCond .eq 7, 3) := by decide +kernel
theorem dX12_readAll_302 : decode cX12_readAll 302 = .ok (.iconst 1, 1) := by decide +kernel
theorem dX12_readAll_303 : decode cX12_readAll 303 = .ok (.goto 4, 3) := by decide +kernel
theorem dX12_readAll_306 : decode cX12_readAll 306 = .ok (.iconst 0, 1) := by decide +kernel
theorem dX12_readAll_307 : decode cX12_readAll 307 = .ok (.iadd, 1) := by decide +kernel
theorem dX12_readAll_308 : decode cX12_readAll 308 = .ok (.putfield 133, 3) := by decide +kernel
theorem dX12_readAll_311 : decode cX12_readAll 311 = .ok (.goto (-257), 3) := by decide +kernel
theorem dX12_readAll_314 : decode cX12_readAll 314 = .ok (.aload_n 0, 1) := by decide +kernel
theorem dX12_readAll_315 : decode cX12_readAll 315 = .ok (.getfield 140, 3) := by decide +kernel
theorem dX12_readAll_318 : decode cX12_readAll 318 = .ok (.iconst (-1), 1) := by decide +kernel
theorem dX12_readAll_319 : decode cX12_readAll 319 = .ok (.if_icmp .ne 22, 3) := by decide +kernel
theorem dX12_readAll_322 : decode cX12_readAll 322 = .ok (.aload_n 0, 1) := by decide +kernel
theorem dX12_readAll_323 : decode cX12_readAll 323 = .ok (.invokevirtual 152, 3) := by decide +kernel
theorem dX12_readAll_326 : decode cX12_readAll 326 = .ok (.iconst (-1), 1) := by decide +kernel
theorem dX12_readAll_327 : decode cX12_readAll 327 = .ok (.if_icmp .ne 10, 3) := by decide +kernel
theorem dX12_readAll_330 : decode cX12_readAll 330 = .ok (.aload_n 0, 1) := by decide +kernel
theorem dX12_readAll_331 : decode cX12_readAll 331 = .ok (.invokevirtual 275, 3) := by decide +kernel
theorem dX12_readAll_334 : decode cX12_readAll 334 = .ok (.ifCond .ne 7, 3) := by decide +kernel
theorem dX12_readAll_337 : decode cX12_readAll 337 = .ok (.aload_n 0, 1) := by decide +kernel
theorem dX12_readAll_338 : decode cX12_readAll 338 = .ok (.invokevirtual 149, 3) := by decide +kernel
theorem dX12_readAll_341 : decode cX12_readAll 341 = .ok (.aload_n 0, 1) := by decide +kernel
theorem dX12_readAll_342 : decode cX12_readAll 342 = .ok (.getfield 140, 3) := by decide +kernel
theorem dX12_readAll_345 : decode cX12_readAll 345 = .ok (.ireturn, 1) := by decide +kernel
theorem dX12_fault_0 : decode cX12_fault 0 = .ok (.iload_n 1, 1) := by decide +kernel
theorem dX12_fault_1 : decode cX12_fault 1 = .ok (.ifCond .ne 10, 3) := by decide +kernel
theorem dX12_fault_4 : decode cX12_fault 4 = .ok (.aload_n 0, 1) := by decide +kernel
theorem dX12_fault_5 : decode cX12_fault 5 = .ok (.invokevirtual 279, 3) := by decide +kernel
theorem dX12_fault_8 : decode cX12_fault 8 = .ok (.goto 18, 3) := by decide +kernel
theorem dX12_fault_11 : decode cX12_fault 11 = .ok (.iload_n 1, 1) := by decide +kernel
theorem dX12_fault_12 : decode cX12_fault 12 = .ok (.iconst 1, 1) := by decide +kernel
theorem dX12_fault_13 : decode cX12_fault 13 = .ok (.if_icmp .ne 11, 3) := by decide +kernel
theorem dX12_fault_16 : decode cX12_fault 16 = .ok (.aload_n 0, 1) := by decide +kernel
theorem dX12_fault_17 : decode cX12_fault 17 = .ok (.iconst 4, 1) := by decide +kernel
theorem dX12_fault_18 : decode cX12_fault 18 = .ok (.invokevirtual 282, 3) := by decide +kernel
theorem dX12_fault_21 : decode cX12_fault 21 = .ok (.goto 5, 3) := by decide +kernel
theorem dX12_fault_24 : decode cX12_fault 24 = .ok (.bipush (-2), 2) := by decide +kernel
theorem dX12_fault_26 : decode cX12_fault 26 = .ok (.ireturn, 1) := by decide +kernel
theorem dX12_takeTunnels_0 : decode cX12_takeTunnels 0 = .ok (.aload_n 0, 1) := by decide +kernel
theorem dX12_takeTunnels_1 : decode cX12_takeTunnels 1 = .ok (.iconst 0, 1) := by decide +kernel
theorem dX12_takeTunnels_2 : decode cX12_takeTunnels 2 = .ok (.putfield 285, 3) := by decide +kernel
theorem dX12_takeTunnels_5 : decode cX12_takeTunnels 5 = .ok (.iconst 0, 1) := by decide +kernel
theorem dX12_takeTunnels_6 : decode cX12_takeTunnels 6 = .ok (.istore_n 1, 1) := by decide +kernel
theorem dX12_takeTunnels_7 : decode cX12_takeTunnels 7 = .ok (.iload_n 1, 1) := by decide +kernel
theorem dX12_takeTunnels_8 : decode cX12_takeTunnels 8 = .ok (.bipush 40, 2) := by decide +kernel
theorem dX12_takeTunnels_10 : decode cX12_takeTunnels 10 = .ok (.if_icmp .ge 28, 3) := by decide +kernel
theorem dX12_takeTunnels_13 : decode cX12_takeTunnels 13 = .ok (.aload_n 0, 1) := by decide +kernel
theorem dX12_takeTunnels_14 : decode cX12_takeTunnels 14 = .ok (.getfield 58, 3) := by decide +kernel
theorem dX12_takeTunnels_17 : decode cX12_takeTunnels 17 = .ok (.iconst 0, 1) := by decide +kernel
theorem dX12_takeTunnels_18 : decode cX12_takeTunnels 18 = .ok (.iload_n 1, 1) := by decide +kernel
theorem dX12_takeTunnels_19 : decode cX12_takeTunnels 19 = .ok (.iadd, 1) := by decide +kernel
theorem dX12_takeTunnels_20 : decode cX12_takeTunnels 20 = .ok (.iconst (-1), 1) := by decide +kernel
theorem dX12_takeTunnels_21 : decode cX12_takeTunnels 21 = .ok (.iastore, 1) := by decide +kernel
theorem dX12_takeTunnels_22 : decode cX12_takeTunnels 22 = .ok (.aload_n 0, 1) := by decide +kernel
theorem dX12_takeTunnels_23 : decode cX12_takeTunnels 23 = .ok (.getfield 58, 3) := by decide +kernel
theorem dX12_takeTunnels_26 : decode cX12_takeTunnels 26 = .ok (.bipush 40, 2) := by decide +kernel
theorem dX12_takeTunnels_28 : decode cX12_takeTunnels 28 = .ok (.iload_n 1, 1) := by decide +kernel
theorem dX12_takeTunnels_29 : decode cX12_takeTunnels 29 = .ok (.iadd, 1) := by decide +kernel
theorem dX12_takeTunnels_30 : decode cX12_takeTunnels 30 = .ok (.iconst 1, 1) := by decide +kernel
theorem dX12_takeTunnels_31 : decode cX12_takeTunnels 31 = .ok (.iastore, 1) := by decide +kernel
theorem dX12_takeTunnels_32 : decode cX12_takeTunnels 32 = .ok (.iinc 1 1, 3) := by decide +kernel
theorem dX12_takeTunnels_35 : decode cX12_takeTunnels 35 = .ok (.goto (-28), 3) := by decide +kernel
theorem dX12_takeTunnels_38 : decode cX12_takeTunnels 38 = .ok (.iconst 0, 1) := by decide +kernel
theorem dX12_takeTunnels_39 : decode cX12_takeTunnels 39 = .ok (.istore_n 1, 1) := by decide +kernel
theorem dX12_takeTunnels_40 : decode cX12_takeTunnels 40 = .ok (.iload_n 1, 1) := by decide +kernel
theorem dX12_takeTunnels_41 : decode cX12_takeTunnels 41 = .ok (.aload_n 0, 1) := by decide +kernel
theorem dX12_takeTunnels_42 : decode cX12_takeTunnels 42 = .ok (.getfield 262, 3) := by decide +kernel
theorem dX12_takeTunnels_45 : decode cX12_takeTunnels 45 = .ok (.if_icmp .ge 133, 3) := by decide +kernel
theorem dX12_takeTunnels_48 : decode cX12_takeTunnels 48 = .ok (.iconst 5, 1) := by decide +kernel
theorem dX12_takeTunnels_49 : decode cX12_takeTunnels 49 = .ok (.aload_n 0, 1) := by decide +kernel
theorem dX12_takeTunnels_50 : decode cX12_takeTunnels 50 = .ok (.getfield 43, 3) := by decide +kernel
theorem dX12_takeTunnels_53 : decode cX12_takeTunnels 53 = .ok (.iconst 4, 1) := by decide +kernel
theorem dX12_takeTunnels_54 : decode cX12_takeTunnels 54 = .ok (.iload_n 1, 1) := by decide +kernel
theorem dX12_takeTunnels_55 : decode cX12_takeTunnels 55 = .ok (.imul, 1) := by decide +kernel
theorem dX12_takeTunnels_56 : decode cX12_takeTunnels 56 = .ok (.iaload, 1) := by decide +kernel
theorem dX12_takeTunnels_57 : decode cX12_takeTunnels 57 = .ok (.imul, 1) := by decide +kernel
theorem dX12_takeTunnels_58 : decode cX12_takeTunnels 58 = .ok (.aload_n 0, 1) := by decide +kernel
theorem dX12_takeTunnels_59 : decode cX12_takeTunnels 59 = .ok (.getfield 43, 3) := by decide +kernel
theorem dX12_takeTunnels_62 : decode cX12_takeTunnels 62 = .ok (.iconst 4, 1) := by decide +kernel
theorem dX12_takeTunnels_63 : decode cX12_takeTunnels 63 = .ok (.iload_n 1, 1) := by decide +kernel
theorem dX12_takeTunnels_64 : decode cX12_takeTunnels 64 = .ok (.imul, 1) := by decide +kernel
theorem dX12_takeTunnels_65 : decode cX12_takeTunnels 65 = .ok (.iconst 1, 1) := by decide +kernel
theorem dX12_takeTunnels_66 : decode cX12_takeTunnels 66 = .ok (.iadd, 1) := by decide +kernel
theorem dX12_takeTunnels_67 : decode cX12_takeTunnels 67 = .ok (.iaload, 1) := by decide +kernel
theorem dX12_takeTunnels_68 : decode cX12_takeTunnels 68 = .ok (.iadd, 1) := by decide +kernel
theorem dX12_takeTunnels_69 : decode cX12_takeTunnels 69 = .ok (.istore_n 2, 1) := by decide +kernel
theorem dX12_takeTunnels_70 : decode cX12_takeTunnels 70 = .ok (.aload_n 0, 1) := by decide +kernel
theorem dX12_takeTunnels_71 : decode cX12_takeTunnels 71 = .ok (.getfield 43, 3) := by decide +kernel
theorem dX12_takeTunnels_74 : decode cX12_takeTunnels 74 = .ok (.iconst 4, 1) := by decide +kernel
theorem dX12_takeTunnels_75 : decode cX12_takeTunnels 75 = .ok (.iload_n 1, 1) := by decide +kernel
theorem dX12_takeTunnels_76 : decode cX12_takeTunnels 76 = .ok (.imul, 1) := by decide +kernel
theorem dX12_takeTunnels_77 : decode cX12_takeTunnels 77 = .ok (.iconst 2, 1) := by decide +kernel
theorem dX12_takeTunnels_78 : decode cX12_takeTunnels 78 = .ok (.iadd, 1) := by decide +kernel
theorem dX12_takeTunnels_79 : decode cX12_takeTunnels 79 = .ok (.iaload, 1) := by decide +kernel
theorem dX12_takeTunnels_80 : decode cX12_takeTunnels 80 = .ok (.istore_n 3, 1) := by decide +kernel
theorem dX12_takeTunnels_81 : decode cX12_takeTunnels 81 = .ok (.aload_n 0, 1) := by decide +kernel
theorem dX12_takeTunnels_82 : decode cX12_takeTunnels 82 = .ok (.getfield 58, 3) := by decide +kernel
theorem dX12_takeTunnels_85 : decode cX12_takeTunnels 85 = .ok (.iconst 0, 1) := by decide +kernel
theorem dX12_takeTunnels_86 : decode cX12_takeTunnels 86 = .ok (.iload_n 2, 1) := by decide +kernel
theorem dX12_takeTunnels_87 : decode cX12_takeTunnels 87 = .ok (.iadd, 1) := by decide +kernel
theorem dX12_takeTunnels_88 : decode cX12_takeTunnels 88 = .ok (.iload_n 3, 1) := by decide +kernel
theorem dX12_takeTunnels_89 : decode cX12_takeTunnels 89 = .ok (.bipush 8, 2) := by decide +kernel
theorem dX12_takeTunnels_91 : decode cX12_takeTunnels 91 = .ok (.if_icmp .ne 8, 3) := by decide +kernel
theorem dX12_takeTunnels_94 : decode cX12_takeTunnels 94 = .ok (.bipush (-2), 2) := by decide +kernel
theorem dX12_takeTunnels_96 : decode cX12_takeTunnels 96 = .ok (.goto 4, 3) := by decide +kernel
theorem dX12_takeTunnels_99 : decode cX12_takeTunnels 99 = .ok (.iload_n 3, 1) := by decide +kernel
theorem dX12_takeTunnels_100 : decode cX12_takeTunnels 100 = .ok (.iastore, 1) := by decide +kernel
theorem dX12_takeTunnels_101 : decode cX12_takeTunnels 101 = .ok (.aload_n 0, 1) := by decide +kernel
theorem dX12_takeTunnels_102 : decode cX12_takeTunnels 102 = .ok (.getfield 58, 3) := by decide +kernel
theorem dX12_takeTunnels_105 : decode cX12_takeTunnels 105 = .ok (.bipush 40, 2) := by decide +kernel
theorem dX12_takeTunnels_107 : decode cX12_takeTunnels 107 = .ok (.iload_n 2, 1) := by decide +kernel
theorem dX12_takeTunnels_108 : decode cX12_takeTunnels 108 = .ok (.iadd, 1) := by decide +kernel
theorem dX12_takeTunnels_109 : decode cX12_takeTunnels 109 = .ok (.aload_n 0, 1) := by decide +kernel
theorem dX12_takeTunnels_110 : decode cX12_takeTunnels 110 = .ok (.getfield 43, 3) := by decide +kernel
theorem dX12_takeTunnels_113 : decode cX12_takeTunnels 113 = .ok (.iconst 4, 1) := by decide +kernel
theorem dX12_takeTunnels_114 : decode cX12_takeTunnels 114 = .ok (.iload_n 1, 1) := by decide +kernel
theorem dX12_takeTunnels_115 : decode cX12_takeTunnels 115 = .ok (.imul, 1) := by decide +kernel
theorem dX12_takeTunnels_116 : decode cX12_takeTunnels 116 = .ok (.iconst 3, 1) := by decide +kernel
theorem dX12_takeTunnels_117 : decode cX12_takeTunnels 117 = .ok (.iadd, 1) := by decide +kernel
theorem dX12_takeTunnels_118 : decode cX12_takeTunnels 118 = .ok (.iaload, 1) := by decide +kernel
theorem dX12_takeTunnels_119 : decode cX12_takeTunnels 119 = .ok (.iastore, 1) := by decide +kernel
theorem dX12_takeTunnels_120 : decode cX12_takeTunnels 120 = .ok (.iload_n 3, 1) := by decide +kernel
theorem dX12_takeTunnels_121 : decode cX12_takeTunnels 121 = .ok (.bipush 8, 2) := by decide +kernel
theorem dX12_takeTunnels_123 : decode cX12_takeTunnels 123 = .ok (.if_icmp .ne 49, 3) := by decide +kernel
theorem dX12_takeTunnels_126 : decode cX12_takeTunnels 126 = .ok (.aload_n 0, 1) := by decide +kernel
theorem dX12_takeTunnels_127 : decode cX12_takeTunnels 127 = .ok (.getfield 61, 3) := by decide +kernel
theorem dX12_takeTunnels_130 : decode cX12_takeTunnels 130 = .ok (.aload_n 0, 1) := by decide +kernel
theorem dX12_takeTunnels_131 : decode cX12_takeTunnels 131 = .ok (.getfield 285, 3) := by decide +kernel
theorem dX12_takeTunnels_134 : decode cX12_takeTunnels 134 = .ok (.aload_n 0, 1) := by decide +kernel
theorem dX12_takeTunnels_135 : decode cX12_takeTunnels 135 = .ok (.getfield 43, 3) := by decide +kernel
theorem dX12_takeTunnels_138 : decode cX12_takeTunnels 138 = .ok (.iconst 4, 1) := by decide +kernel
theorem dX12_takeTunnels_139 : decode cX12_takeTunnels 139 = .ok (.iload_n 1, 1) := by decide +kernel
theorem dX12_takeTunnels_140 : decode cX12_takeTunnels 140 = .ok (.imul, 1) := by decide +kernel
theorem dX12_takeTunnels_141 : decode cX12_takeTunnels 141 = .ok (.iaload, 1) := by decide +kernel
theorem dX12_takeTunnels_142 : decode cX12_takeTunnels 142 = .ok (.iastore, 1) := by decide +kernel
theorem dX12_takeTunnels_143 : decode cX12_takeTunnels 143 = .ok (.aload_n 0, 1) := by decide +kernel
theorem dX12_takeTunnels_144 : decode cX12_takeTunnels 144 = .ok (.getfield 64, 3) := by decide +kernel
theorem dX12_takeTunnels_147 : decode cX12_takeTunnels 147 = .ok (.aload_n 0, 1) := by decide +kernel
theorem dX12_takeTunnels_148 : decode cX12_takeTunnels 148 = .ok (.getfield 285, 3) := by decide +kernel
theorem dX12_takeTunnels_151 : decode cX12_takeTunnels 151 = .ok (.aload_n 0, 1) := by decide +kernel
theorem dX12_takeTunnels_152 : decode cX12_takeTunnels 152 = .ok (.getfield 43, 3) := by decide +kernel
theorem dX12_takeTunnels_155 : decode cX12_takeTunnels 155 = .ok (.iconst 4, 1) := by decide +kernel
theorem dX12_takeTunnels_156 : decode cX12_takeTunnels 156 = .ok (.iload_n 1, 1) := by decide +kernel
theorem dX12_takeTunnels_157 : decode cX12_takeTunnels 157 = .ok (.imul, 1) := by decide +kernel
theorem dX12_takeTunnels_158 : decode cX12_takeTunnels 158 = .ok (.iconst 1, 1) := by decide +kernel
theorem dX12_takeTunnels_159 : decode cX12_takeTunnels 159 = .ok (.iadd, 1) := by decide +kernel
theorem dX12_takeTunnels_160 : decode cX12_takeTunnels 160 = .ok (.iaload, 1) := by decide +kernel
theorem dX12_takeTunnels_161 : decode cX12_takeTunnels 161 = .ok (.iastore, 1) := by decide +kernel
theorem dX12_takeTunnels_162 : decode cX12_takeTunnels 162 = .ok (.aload_n 0, 1) := by decide +kernel
theorem dX12_takeTunnels_163 : decode cX12_takeTunnels 163 = .ok (.dup, 1) := by decide +kernel
theorem dX12_takeTunnels_164 : decode cX12_takeTunnels 164 = .ok (.getfield 285, 3) := by decide +kernel
theorem dX12_takeTunnels_167 : decode cX12_takeTunnels 167 = .ok (.iconst 1, 1) := by decide +kernel
theorem dX12_takeTunnels_168 : decode cX12_takeTunnels 168 = .ok (.iadd, 1) := by decide +kernel
theorem dX12_takeTunnels_169 : decode cX12_takeTunnels 169 = .ok (.putfield 285, 3) := by decide +kernel
theorem dX12_takeTunnels_172 : decode cX12_takeTunnels 172 = .ok (.iinc 1 1, 3) := by decide +kernel
theorem dX12_takeTunnels_175 : decode cX12_takeTunnels 175 = .ok (.goto (-135), 3) := by decide +kernel
theorem dX12_takeTunnels_178 : decode cX12_takeTunnels 178 = .ok (.return_, 1) := by decide +kernel
theorem dX12_begin_0 : decode cX12_begin 0 = .ok (.aload_n 0, 1) := by decide +kernel
theorem dX12_begin_1 : decode cX12_begin 1 = .ok (.iload_n 1, 1) := by decide +kernel
theorem dX12_begin_2 : decode cX12_begin 2 = .ok (.iconst 0, 1) := by decide +kernel
theorem dX12_begin_3 : decode cX12_begin 3 = .ok (.iload_n 2, 1) := by decide +kernel
theorem dX12_begin_4 : decode cX12_begin 4 = .ok (.invokevirtual 288, 3) := by decide +kernel
theorem dX12_begin_7 : decode cX12_begin 7 = .ok (.aload_n 0, 1) := by decide +kernel
theorem dX12_begin_8 : decode cX12_begin 8 = .ok (.iload_n 1, 1) := by decide +kernel
theorem dX12_begin_9 : decode cX12_begin 9 = .ok (.iconst 1, 1) := by decide +kernel
theorem dX12_begin_10 : decode cX12_begin 10 = .ok (.iload_n 3, 1) := by decide +kernel
theorem dX12_begin_11 : decode cX12_begin 11 = .ok (.invokevirtual 288, 3) := by decide +kernel
theorem dX12_begin_14 : decode cX12_begin 14 = .ok (.aload_n 0, 1) := by decide +kernel
theorem dX12_begin_15 : decode cX12_begin 15 = .ok (.iload_n 1, 1) := by decide +kernel
theorem dX12_begin_16 : decode cX12_begin 16 = .ok (.iconst 2, 1) := by decide +kernel
theorem dX12_begin_17 : decode cX12_begin 17 = .ok (.iload 4, 2) := by decide +kernel
theorem dX12_begin_19 : decode cX12_begin 19 = .ok (.invokevirtual 288, 3) := by decide +kernel
theorem dX12_begin_22 : decode cX12_begin 22 = .ok (.aload_n 0, 1) := by decide +kernel
theorem dX12_begin_23 : decode cX12_begin 23 = .ok (.iload_n 1, 1) := by decide +kernel
theorem dX12_begin_24 : decode cX12_begin 24 = .ok (.iconst 3, 1) := by decide +kernel
theorem dX12_begin_25 : decode cX12_begin 25 = .ok (.iload 4, 2) := by decide +kernel
theorem dX12_begin_27 : decode cX12_begin 27 = .ok (.invokevirtual 288, 3) := by decide +kernel
theorem dX12_begin_30 : decode cX12_begin 30 = .ok (.aload_n 0, 1) := by decide +kernel
theorem dX12_begin_31 : decode cX12_begin 31 = .ok (.iload_n 1, 1) := by decide +kernel
theorem dX12_begin_32 : decode cX12_begin 32 = .ok (.iconst 4, 1) := by decide +kernel
theorem dX12_begin_33 : decode cX12_begin 33 = .ok (.iload 5, 2) := by decide +kernel
theorem dX12_begin_35 : decode cX12_begin 35 = .ok (.invokevirtual 288, 3) := by decide +kernel
theorem dX12_begin_38 : decode cX12_begin 38 = .ok (.aload_n 0, 1) := by decide +kernel
theorem dX12_begin_39 : decode cX12_begin 39 = .ok (.iload_n 1, 1) := by decide +kernel
theorem dX12_begin_40 : decode cX12_begin 40 = .ok (.iconst 5, 1) := by decide +kernel
theorem dX12_begin_41 : decode cX12_begin 41 = .ok (.iconst (-1), 1) := by decide +kernel
theorem dX12_begin_42 : decode cX12_begin 42 = .ok (.invokevirtual 288, 3) := by decide +kernel
theorem dX12_begin_45 : decode cX12_begin 45 = .ok (.return_, 1) := by decide +kernel
theorem dX12_takeAll_0 : decode cX12_takeAll 0 = .ok (.iconst 0, 1) := by decide +kernel
theorem dX12_takeAll_1 : decode cX12_takeAll 1 = .ok (.istore_n 1, 1) := by decide +kernel
theorem dX12_takeAll_2 : decode cX12_takeAll 2 = .ok (.iload_n 1, 1) := by decide +kernel
theorem dX12_takeAll_3 : decode cX12_takeAll 3 = .ok (.iconst 4, 1) := by decide +kernel
theorem dX12_takeAll_4 : decode cX12_takeAll 4 = .ok (.if_icmp .ge 21, 3) := by decide +kernel
theorem dX12_takeAll_7 : decode cX12_takeAll 7 = .ok (.aload_n 0, 1) := by decide +kernel
theorem dX12_takeAll_8 : decode cX12_takeAll 8 = .ok (.getfield 52, 3) := by decide +kernel
theorem dX12_takeAll_11 : decode cX12_takeAll 11 = .ok (.iload_n 1, 1) := by decide +kernel
theorem dX12_takeAll_12 : decode cX12_takeAll 12 = .ok (.aload_n 0, 1) := by decide +kernel
theorem dX12_takeAll_13 : decode cX12_takeAll 13 = .ok (.getfield 40, 3) := by decide +kernel
theorem dX12_takeAll_16 : decode cX12_takeAll 16 = .ok (.iload_n 1, 1) := by decide +kernel
theorem dX12_takeAll_17 : decode cX12_takeAll 17 = .ok (.iaload, 1) := by decide +kernel
theorem dX12_takeAll_18 : decode cX12_takeAll 18 = .ok (.iastore, 1) := by decide +kernel
theorem dX12_takeAll_19 : decode cX12_takeAll 19 = .ok (.iinc 1 1, 3) := by decide +kernel
theorem dX12_takeAll_22 : decode cX12_takeAll 22 = .ok (.goto (-20), 3) := by decide +kernel
theorem dX12_takeAll_25 : decode cX12_takeAll 25 = .ok (.iconst 0, 1) := by decide +kernel
theorem dX12_takeAll_26 : decode cX12_takeAll 26 = .ok (.istore_n 1, 1) := by decide +kernel
theorem dX12_takeAll_27 : decode cX12_takeAll 27 = .ok (.iload_n 1, 1) := by decide +kernel
theorem dX12_takeAll_28 : decode cX12_takeAll 28 = .ok (.sipush 320, 3) := by decide +kernel
theorem dX12_takeAll_31 : decode cX12_takeAll 31 = .ok (.if_icmp .ge 16, 3) := by decide +kernel
theorem dX12_takeAll_34 : decode cX12_takeAll 34 = .ok (.aload_n 0, 1) := by decide +kernel
theorem dX12_takeAll_35 : decode cX12_takeAll 35 = .ok (.getfield 58, 3) := by decide +kernel
theorem dX12_takeAll_38 : decode cX12_takeAll 38 = .ok (.iload_n 1, 1) := by decide +kernel
theorem dX12_takeAll_39 : decode cX12_takeAll 39 = .ok (.iconst 0, 1) := by decide +kernel
theorem dX12_takeAll_40 : decode cX12_takeAll 40 = .ok (.iastore, 1) := by decide +kernel
theorem dX12_takeAll_41 : decode cX12_takeAll 41 = .ok (.iinc 1 1, 3) := by decide +kernel
theorem dX12_takeAll_44 : decode cX12_takeAll 44 = .ok (.goto (-17), 3) := by decide +kernel
theorem dX12_takeAll_47 : decode cX12_takeAll 47 = .ok (.aload_n 0, 1) := by decide +kernel
theorem dX12_takeAll_48 : decode cX12_takeAll 48 = .ok (.invokevirtual 291, 3) := by decide +kernel
theorem dX12_takeAll_51 : decode cX12_takeAll 51 = .ok (.aload_n 0, 1) := by decide +kernel
theorem dX12_takeAll_52 : decode cX12_takeAll 52 = .ok (.getfield 58, 3) := by decide +kernel
theorem dX12_takeAll_55 : decode cX12_takeAll 55 = .ok (.sipush 137, 3) := by decide +kernel
theorem dX12_takeAll_58 : decode cX12_takeAll 58 = .ok (.aload_n 0, 1) := by decide +kernel
theorem dX12_takeAll_59 : decode cX12_takeAll 59 = .ok (.getfield 52, 3) := by decide +kernel
theorem dX12_takeAll_62 : decode cX12_takeAll 62 = .ok (.iconst 2, 1) := by decide +kernel
theorem dX12_takeAll_63 : decode cX12_takeAll 63 = .ok (.iaload, 1) := by decide +kernel
theorem dX12_takeAll_64 : decode cX12_takeAll 64 = .ok (.iastore, 1) := by decide +kernel
theorem dX12_takeAll_65 : decode cX12_takeAll 65 = .ok (.iconst 0, 1) := by decide +kernel
theorem dX12_takeAll_66 : decode cX12_takeAll 66 = .ok (.istore_n 1, 1) := by decide +kernel
theorem dX12_takeAll_67 : decode cX12_takeAll 67 = .ok (.iload_n 1, 1) := by decide +kernel
theorem dX12_takeAll_68 : decode cX12_takeAll 68 = .ok (.aload_n 0, 1) := by decide +kernel
theorem dX12_takeAll_69 : decode cX12_takeAll 69 = .ok (.getfield 268, 3) := by decide +kernel
theorem dX12_takeAll_72 : decode cX12_takeAll 72 = .ok (.if_icmp .ge 27, 3) := by decide +kernel
theorem dX12_takeAll_75 : decode cX12_takeAll 75 = .ok (.aload_n 0, 1) := by decide +kernel
theorem dX12_takeAll_76 : decode cX12_takeAll 76 = .ok (.getfield 58, 3) := by decide +kernel
theorem dX12_takeAll_79 : decode cX12_takeAll 79 = .ok (.bipush 80, 2) := by decide +kernel
theorem dX12_takeAll_81 : decode cX12_takeAll 81 = .ok (.aload_n 0, 1) := by decide +kernel
theorem dX12_takeAll_82 : decode cX12_takeAll 82 = .ok (.getfield 49, 3) := by decide +kernel
theorem dX12_takeAll_85 : decode cX12_takeAll 85 = .ok (.iload_n 1, 1) := by decide +kernel
theorem dX12_takeAll_86 : decode cX12_takeAll 86 = .ok (.iaload, 1) := by decide +kernel
theorem dX12_takeAll_87 : decode cX12_takeAll 87 = .ok (.iadd, 1) := by decide +kernel
theorem dX12_takeAll_88 : decode cX12_takeAll 88 = .ok (.dup2, 1) := by decide +kernel
theorem dX12_takeAll_89 : decode cX12_takeAll 89 = .ok (.iaload, 1) := by decide +kernel
theorem dX12_takeAll_90 : decode cX12_takeAll 90 = .ok (.iconst 1, 1) := by decide +kernel
theorem dX12_takeAll_91 : decode cX12_takeAll 91 = .ok (.iadd, 1) := by decide +kernel
theorem dX12_takeAll_92 : decode cX12_takeAll 92 = .ok (.iastore, 1) := by decide +kernel
theorem dX12_takeAll_93 : decode cX12_takeAll 93 = .ok (.iinc 1 1, 3) := by decide +kernel
theorem dX12_takeAll_96 : decode cX12_takeAll 96 = .ok (.goto (-29), 3) := by decide +kernel
theorem dX12_takeAll_99 : decode cX12_takeAll 99 = .ok (.aload_n 0, 1) := by decide +kernel
theorem dX12_takeAll_100 : decode cX12_takeAll 100 = .ok (.aload_n 0, 1) := by decide +kernel
theorem dX12_takeAll_101 : decode cX12_takeAll 101 = .ok (.getfield 265, 3) := by decide +kernel
theorem dX12_takeAll_104 : decode cX12_takeAll 104 = .ok (.putfield 294, 3) := by decide +kernel
theorem dX12_takeAll_107 : decode cX12_takeAll 107 = .ok (.iconst 0, 1) := by decide +kernel
theorem dX12_takeAll_108 : decode cX12_takeAll 108 = .ok (.istore_n 1, 1) := by decide +kernel
theorem dX12_takeAll_109 : decode cX12_takeAll 109 = .ok (.iload_n 1, 1) := by decide +kernel
theorem dX12_takeAll_110 : decode cX12_takeAll 110 = .ok (.bipush 24, 2) := by decide +kernel
theorem dX12_takeAll_112 : decode cX12_takeAll 112 = .ok (.if_icmp .ge 21, 3) := by decide +kernel
theorem dX12_takeAll_115 : decode cX12_takeAll 115 = .ok (.aload_n 0, 1) := by decide +kernel
theorem dX12_takeAll_116 : decode cX12_takeAll 116 = .ok (.getfield 55, 3) := by decide +kernel
theorem dX12_takeAll_119 : decode cX12_takeAll 119 = .ok (.iload_n 1, 1) := by decide +kernel
theorem dX12_takeAll_120 : decode cX12_takeAll 120 = .ok (.aload_n 0, 1) := by decide +kernel
theorem dX12_takeAll_121 : decode cX12_takeAll 121 = .ok (.getfield 46, 3) := by decide +kernel
theorem dX12_takeAll_124 : decode cX12_takeAll 124 = .ok (.iload_n 1, 1) := by decide +kernel
theorem dX12_takeAll_125 : decode cX12_takeAll 125 = .ok (.iaload, 1) := by decide +kernel
theorem dX12_takeAll_126 : decode cX12_takeAll 126 = .ok (.iastore, 1) := by decide +kernel
theorem dX12_takeAll_127 : decode cX12_takeAll 127 = .ok (.iinc 1 1, 3) := by decide +kernel
theorem dX12_takeAll_130 : decode cX12_takeAll 130 = .ok (.goto (-21), 3) := by decide +kernel
theorem dX12_takeAll_133 : decode cX12_takeAll 133 = .ok (.iconst 0, 1) := by decide +kernel
theorem dX12_takeAll_134 : decode cX12_takeAll 134 = .ok (.istore_n 1, 1) := by decide +kernel
theorem dX12_takeAll_135 : decode cX12_takeAll 135 = .ok (.iload_n 1, 1) := by decide +kernel
theorem dX12_takeAll_136 : decode cX12_takeAll 136 = .ok (.aload_n 0, 1) := by decide +kernel
theorem dX12_takeAll_137 : decode cX12_takeAll 137 = .ok (.getfield 294, 3) := by decide +kernel
theorem dX12_takeAll_140 : decode cX12_takeAll 140 = .ok (.if_icmp .ge 61, 3) := by decide +kernel
theorem dX12_takeAll_143 : decode cX12_takeAll 143 = .ok (.aload_n 0, 1) := by decide +kernel
theorem dX12_takeAll_144 : decode cX12_takeAll 144 = .ok (.iload_n 1, 1) := by decide +kernel
theorem dX12_takeAll_145 : decode cX12_takeAll 145 = .ok (.aload_n 0, 1) := by decide +kernel
theorem dX12_takeAll_146 : decode cX12_takeAll 146 = .ok (.getfield 55, 3) := by decide +kernel
theorem dX12_takeAll_149 : decode cX12_takeAll 149 = .ok (.iconst 4, 1) := by decide +kernel
theorem dX12_takeAll_150 : decode cX12_takeAll 150 = .ok (.iload_n 1, 1) := by decide +kernel
theorem dX12_takeAll_151 : decode cX12_takeAll 151 = .ok (.imul, 1) := by decide +kernel
theorem dX12_takeAll_152 : decode cX12_takeAll 152 = .ok (.iaload, 1) := by decide +kernel
theorem dX12_takeAll_153 : decode cX12_takeAll 153 = .ok (.aload_n 0, 1) := by decide +kernel
theorem dX12_takeAll_154 : decode cX12_takeAll 154 = .ok (.getfield 55, 3) := by decide +kernel
theorem dX12_takeAll_157 : decode cX12_takeAll 157 = .ok (.iconst 4, 1) := by decide +kernel
theorem dX12_takeAll_158 : decode cX12_takeAll 158 = .ok (.iload_n 1, 1) := by decide +kernel
theorem dX12_takeAll_159 : decode cX12_takeAll 159 = .ok (.imul, 1) := by decide +kernel
theorem dX12_takeAll_160 : decode cX12_takeAll 160 = .ok (.iconst 1, 1) := by decide +kernel
theorem dX12_takeAll_161 : decode cX12_takeAll 161 = .ok (.iadd, 1) := by decide +kernel
theorem dX12_takeAll_162 : decode cX12_takeAll 162 = .ok (.iaload, 1) := by decide +kernel
theorem dX12_takeAll_163 : decode cX12_takeAll 163 = .ok (.aload_n 0, 1) := by decide +kernel
theorem dX12_takeAll_164 : decode cX12_takeAll 164 = .ok (.getfield 58, 3) := by decide +kernel
theorem dX12_takeAll_167 : decode cX12_takeAll 167 = .ok (.sipush 137, 3) := by decide +kernel
theorem dX12_takeAll_170 : decode cX12_takeAll 170 = .ok (.iaload, 1) := by decide +kernel
theorem dX12_takeAll_171 : decode cX12_takeAll 171 = .ok (.aload_n 0, 1) := by decide +kernel
theorem dX12_takeAll_172 : decode cX12_takeAll 172 = .ok (.getfield 55, 3) := by decide +kernel
theorem dX12_takeAll_175 : decode cX12_takeAll 175 = .ok (.iconst 4, 1) := by decide +kernel
theorem dX12_takeAll_176 : decode cX12_takeAll 176 = .ok (.iload_n 1, 1) := by decide +kernel
theorem dX12_takeAll_177 : decode cX12_takeAll 177 = .ok (.imul, 1) := by decide +kernel
theorem dX12_takeAll_178 : decode cX12_takeAll 178 = .ok (.iconst 2, 1) := by decide +kernel
theorem dX12_takeAll_179 : decode cX12_takeAll 179 = .ok (.iadd, 1) := by decide +kernel
theorem dX12_takeAll_180 : decode cX12_takeAll 180 = .ok (.iaload, 1) := by decide +kernel
theorem dX12_takeAll_181 : decode cX12_takeAll 181 = .ok (.iadd, 1) := by decide +kernel
theorem dX12_takeAll_182 : decode cX12_takeAll 182 = .ok (.aload_n 0, 1) := by decide +kernel
theorem dX12_takeAll_183 : decode cX12_takeAll 183 = .ok (.getfield 55, 3) := by decide +kernel
theorem dX12_takeAll_186 : decode cX12_takeAll 186 = .ok (.iconst 4, 1) := by decide +kernel
theorem dX12_takeAll_187 : decode cX12_takeAll 187 = .ok (.iload_n 1, 1) := by decide +kernel
theorem dX12_takeAll_188 : decode cX12_takeAll 188 = .ok (.imul, 1) := by decide +kernel
theorem dX12_takeAll_189 : decode cX12_takeAll 189 = .ok (.iconst 3, 1) := by decide +kernel
theorem dX12_takeAll_190 : decode cX12_takeAll 190 = .ok (.iadd, 1) := by decide +kernel
theorem dX12_takeAll_191 : decode cX12_takeAll 191 = .ok (.iaload, 1) := by decide +kernel
theorem dX12_takeAll_192 : decode cX12_takeAll 192 = .ok (.invokevirtual 297, 3) := by decide +kernel
theorem dX12_takeAll_195 : decode cX12_takeAll 195 = .ok (.iinc 1 1, 3) := by decide +kernel
theorem dX12_takeAll_198 : decode cX12_takeAll 198 = .ok (.goto (-63), 3) := by decide +kernel
theorem dX12_takeAll_201 : decode cX12_takeAll 201 = .ok (.aload_n 0, 1) := by decide +kernel
theorem dX12_takeAll_202 : decode cX12_takeAll 202 = .ok (.getfield 58, 3) := by decide +kernel
theorem dX12_takeAll_205 : decode cX12_takeAll 205 = .ok (.sipush 136, 3) := by decide +kernel
theorem dX12_takeAll_208 : decode cX12_takeAll 208 = .ok (.aload_n 0, 1) := by decide +kernel
theorem dX12_takeAll_209 : decode cX12_takeAll 209 = .ok (.getfield 294, 3) := by decide +kernel
theorem dX12_takeAll_212 : decode cX12_takeAll 212 = .ok (.iastore, 1) := by decide +kernel
theorem dX12_takeAll_213 : decode cX12_takeAll 213 = .ok (.aload_n 0, 1) := by decide +kernel
theorem dX12_takeAll_214 : decode cX12_takeAll 214 = .ok (.iconst 0, 1) := by decide +kernel
theorem dX12_takeAll_215 : decode cX12_takeAll 215 = .ok (.putfield 301, 3) := by decide +kernel
theorem dX12_takeAll_218 : decode cX12_takeAll 218 = .ok (.aload_n 0, 1) := by decide +kernel
theorem dX12_takeAll_219 : decode cX12_takeAll 219 = .ok (.iconst 0, 1) := by decide +kernel
theorem dX12_takeAll_220 : decode cX12_takeAll 220 = .ok (.putfield 304, 3) := by decide +kernel
theorem dX12_takeAll_223 : decode cX12_takeAll 223 = .ok (.aload_n 0, 1) := by decide +kernel
theorem dX12_takeAll_224 : decode cX12_takeAll 224 = .ok (.iconst 0, 1) := by decide +kernel
theorem dX12_takeAll_225 : decode cX12_takeAll 225 = .ok (.putfield 307, 3) := by decide +kernel
theorem dX12_takeAll_228 : decode cX12_takeAll 228 = .ok (.aload_n 0, 1) := by decide +kernel
theorem dX12_takeAll_229 : decode cX12_takeAll 229 = .ok (.getfield 52, 3) := by decide +kernel
theorem dX12_takeAll_232 : decode cX12_takeAll 232 = .ok (.iconst 0, 1) := by decide +kernel
theorem dX12_takeAll_233 : decode cX12_takeAll 233 = .ok (.iaload, 1) := by decide +kernel
theorem dX12_takeAll_234 : decode cX12_takeAll 234 = .ok (.ireturn, 1) := by decide +kernel
theorem dX12_text_0 : decode cX12_text 0 = .ok (.iload_n 1, 1) := by decide +kernel
theorem dX12_text_1 : decode cX12_text 1 = .ok (.ifCond .ne 21, 3) := by decide +kernel
theorem dX12_text_4 : decode cX12_text 4 = .ok (.aload_n 0, 1) := by decide +kernel
theorem dX12_text_5 : decode cX12_text 5 = .ok (.invokevirtual 279, 3) := by decide +kernel
theorem dX12_text_8 : decode cX12_text 8 = .ok (.iconst (-1), 1) := by decide +kernel
theorem dX12_text_9 : decode cX12_text 9 = .ok (.if_icmp .ne 13, 3) := by decide +kernel
theorem dX12_text_12 : decode cX12_text 12 = .ok (.aload_n 0, 1) := by decide +kernel
theorem dX12_text_13 : decode cX12_text 13 = .ok (.iconst 0, 1) := by decide +kernel
theorem dX12_text_14 : decode cX12_text 14 = .ok (.putfield 130, 3) := by decide +kernel
theorem dX12_text_17 : decode cX12_text 17 = .ok (.aload_n 0, 1) := by decide +kernel
theorem dX12_text_18 : decode cX12_text 18 = .ok (.invokevirtual 311, 3) := by decide +kernel
theorem dX12_text_21 : decode cX12_text 21 = .ok (.ireturn, 1) := by decide +kernel
theorem dX12_text_22 : decode cX12_text 22 = .ok (.iload_n 1, 1) := by decide +kernel
theorem dX12_text_23 : decode cX12_text 23 = .ok (.iconst 1, 1) := by decide +kernel
theorem dX12_text_24 : decode cX12_text 24 = .ok (.if_icmp .ne 45, 3) := by decide +kernel
theorem dX12_text_27 : decode cX12_text 27 = .ok (.aload_n 0, 1) := by decide +kernel
theorem dX12_text_28 : decode cX12_text 28 = .ok (.getfield 314, 3) := by decide +kernel
theorem dX12_text_31 : decode cX12_text 31 = .ok (.iconst 4, 1) := by decide +kernel
theorem dX12_text_32 : decode cX12_text 32 = .ok (.if_icmp .ge 37, 3) := by decide +kernel
theorem dX12_text_35 : decode cX12_text 35 = .ok (.aload_n 0, 1) := by decide +kernel
theorem dX12_text_36 : decode cX12_text 36 = .ok (.aload_n 0, 1) := by decide +kernel
theorem dX12_text_37 : decode cX12_text 37 = .ok (.getfield 314, 3) := by decide +kernel
theorem dX12_text_40 : decode cX12_text 40 = .ok (.invokevirtual 282, 3) := by decide +kernel
theorem dX12_text_43 : decode cX12_text 43 = .ok (.iconst (-1), 1) := by decide +kernel
theorem dX12_text_44 : decode cX12_text 44 = .ok (.if_icmp .ne 25, 3) := by decide +kernel
theorem dX12_text_47 : decode cX12_text 47 = .ok (.aload_n 0, 1) := by decide +kernel
theorem dX12_text_48 : decode cX12_text 48 = .ok (.iconst 0, 1) := by decide +kernel
theorem dX12_text_49 : decode cX12_text 49 = .ok (.putfield 130, 3) := by decide +kernel
theorem dX12_text_52 : decode cX12_text 52 = .ok (.aload_n 0, 1) := by decide +kernel
theorem dX12_text_53 : decode cX12_text 53 = .ok (.dup, 1) := by decide +kernel
theorem dX12_text_54 : decode cX12_text 54 = .ok (.getfield 314, 3) := by decide +kernel
theorem dX12_text_57 : decode cX12_text 57 = .ok (.iconst 1, 1) := by decide +kernel
theorem dX12_text_58 : decode cX12_text 58 = .ok (.iadd, 1) := by decide +kernel
theorem dX12_text_59 : decode cX12_text 59 = .ok (.putfield 314, 3) := by decide +kernel
theorem dX12_text_62 : decode cX12_text 62 = .ok (.aload_n 0, 1) := by decide +kernel
theorem dX12_text_63 : decode cX12_text 63 = .ok (.getfield 314, 3) := by decide +kernel
theorem dX12_text_66 : decode cX12_text 66 = .ok (.iconst 1, 1) := by decide +kernel
theorem dX12_text_67 : decode cX12_text 67 = .ok (.isub, 1) := by decide +kernel
theorem dX12_text_68 : decode cX12_text 68 = .ok (.ireturn, 1) := by decide +kernel
theorem dX12_text_69 : decode cX12_text 69 = .ok (.iconst (-1), 1) := by decide +kernel
theorem dX12_text_70 : decode cX12_text 70 = .ok (.ireturn, 1) := by decide +kernel
theorem dX12_of_0 : decode cX12_of 0 = .ok (.aload_n 0, 1) := by decide +kernel
theorem dX12_of_1 : decode cX12_of 1 = .ok (.getfield 58, 3) := by decide +kernel
theorem dX12_of_4 : decode cX12_of 4 = .ok (.bipush 88, 2) := by decide +kernel
theorem dX12_of_6 : decode cX12_of 6 = .ok (.bipush 6, 2) := by decide +kernel
theorem dX12_of_8 : decode cX12_of 8 = .ok (.iload_n 1, 1) := by decide +kernel
theorem dX12_of_9 : decode cX12_of 9 = .ok (.imul, 1) := by decide +kernel
theorem dX12_of_10 : decode cX12_of 10 = .ok (.iadd, 1) := by decide +kernel
theorem dX12_of_11 : decode cX12_of 11 = .ok (.iload_n 2, 1) := by decide +kernel
theorem dX12_of_12 : decode cX12_of 12 = .ok (.iadd, 1) := by decide +kernel
theorem dX12_of_13 : decode cX12_of 13 = .ok (.iaload, 1) := by decide +kernel
theorem dX12_of_14 : decode cX12_of 14 = .ok (.ireturn, 1) := by decide +kernel
theorem dX12_put__0 : decode cX12_put_ 0 = .ok (.aload_n 0, 1) := by decide +kernel
theorem dX12_put__1 : decode cX12_put_ 1 = .ok (.getfield 58, 3) := by decide +kernel
theorem dX12_put__4 : decode cX12_put_ 4 = .ok (.bipush 88, 2) := by decide +kernel
theorem dX12_put__6 : decode cX12_put_ 6 = .ok (.bipush 6, 2) := by decide +kernel
theorem dX12_put__8 : decode cX12_put_ 8 = .ok (.iload_n 1, 1) := by decide +kernel
theorem dX12_put__9 : decode cX12_put_ 9 = .ok (.imul, 1) := by decide +kernel
theorem dX12_put__10 : decode cX12_put_ 10 = .ok (.iadd, 1) := by decide +kernel
theorem dX12_put__11 : decode cX12_put_ 11 = .ok (.iload_n 2, 1) := by decide +kernel
theorem dX12_put__12 : decode cX12_put_ 12 = .ok (.iadd, 1) := by decide +kernel
theorem dX12_put__13 : decode cX12_put_ 13 = .ok (.iload_n 3, 1) := by decide +kernel
theorem dX12_put__14 : decode cX12_put_ 14 = .ok (.iastore, 1) := by decide +kernel
theorem dX12_put__15 : decode cX12_put_ 15 = .ok (.return_, 1) := by decide +kernel
theorem dX12_isMouth_0 : decode cX12_isMouth 0 = .ok (.iload_n 1, 1) := by decide +kernel
theorem dX12_isMouth_1 : decode cX12_isMouth 1 = .ok (.iconst 0, 1) := by decide +kernel
theorem dX12_isMouth_2 : decode cX12_isMouth 2 = .ok (.aload_n 0, 1) := by decide +kernel
theorem dX12_isMouth_3 : decode cX12_isMouth 3 = .ok (.getfield 52, 3) := by decide +kernel
theorem dX12_isMouth_6 : decode cX12_isMouth 6 = .ok (.iconst 0, 1) := by decide +kernel
theorem dX12_isMouth_7 : decode cX12_isMouth 7 = .ok (.iaload, 1) := by decide +kernel
theorem dX12_isMouth_8 : decode cX12_isMouth 8 = .ok (.iconst 1, 1) := by decide +kernel
theorem dX12_isMouth_9 : decode cX12_isMouth 9 = .ok (.isub, 1) := by decide +kernel
theorem dX12_isMouth_10 : decode cX12_isMouth 10 = .ok (.invokestatic 238, 3) := by decide +kernel
theorem dX12_isMouth_13 : decode cX12_isMouth 13 = .ok (.ireturn, 1) := by decide +kernel
theorem dX12_isColour_0 : decode cX12_isColour 0 = .ok (.iload_n 1, 1) := by decide +kernel
theorem dX12_isColour_1 : decode cX12_isColour 1 = .ok (.iconst 0, 1) := by decide +kernel
theorem dX12_isColour_2 : decode cX12_isColour 2 = .ok (.aload_n 0, 1) := by decide +kernel
theorem dX12_isColour_3 : decode cX12_isColour 3 = .ok (.getfield 52, 3) := by decide +kernel
theorem dX12_isColour_6 : decode cX12_isColour 6 = .ok (.iconst 1, 1) := by decide +kernel
theorem dX12_isColour_7 : decode cX12_isColour 7 = .ok (.iaload, 1) := by decide +kernel
theorem dX12_isColour_8 : decode cX12_isColour 8 = .ok (.iconst 1, 1) := by decide +kernel
theorem dX12_isColour_9 : decode cX12_isColour 9 = .ok (.isub, 1) := by decide +kernel
theorem dX12_isColour_10 : decode cX12_isColour 10 = .ok (.invokestatic 238, 3) := by decide +kernel
theorem dX12_isColour_13 : decode cX12_isColour 13 = .ok (.ireturn, 1) := by decide +kernel
theorem dX12_isLamp_0 : decode cX12_isLamp 0 = .ok (.aload_n 0, 1) := by decide +kernel
theorem dX12_isLamp_1 : decode cX12_isLamp 1 = .ok (.getfield 52, 3) := by decide +kernel
theorem dX12_isLamp_4 : decode cX12_isLamp 4 = .ok (.iconst 0, 1) := by decide +kernel
theorem dX12_isLamp_5 : decode cX12_isLamp 5 = .ok (.iaload, 1) := by decide +kernel
theorem dX12_isLamp_6 : decode cX12_isLamp 6 = .ok (.ifCond .le 20, 3) := by decide +kernel
theorem dX12_isLamp_9 : decode cX12_isLamp 9 = .ok (.aload_n 0, 1) := by decide +kernel
theorem dX12_isLamp_10 : decode cX12_isLamp 10 = .ok (.iload_n 1, 1) := by decide +kernel
theorem dX12_isLamp_11 : decode cX12_isLamp 11 = .ok (.invokevirtual 317, 3) := by decide +kernel
theorem dX12_isLamp_14 : decode cX12_isLamp 14 = .ok (.ifCond .ne 8, 3) := by decide +kernel
theorem dX12_isLamp_17 : decode cX12_isLamp 17 = .ok (.iload_n 1, 1) := by decide +kernel
theorem dX12_isLamp_18 : decode cX12_isLamp 18 = .ok (.iconst 5, 1) := by decide +kernel
theorem dX12_isLamp_19 : decode cX12_isLamp 19 = .ok (.if_icmp .ne 7, 3) := by decide +kernel
theorem dX12_isLamp_22 : decode cX12_isLamp 22 = .ok (.iconst 1, 1) := by decide +kernel
theorem dX12_isLamp_23 : decode cX12_isLamp 23 = .ok (.goto 4, 3) := by decide +kernel
theorem dX12_isLamp_26 : decode cX12_isLamp 26 = .ok (.iconst 0, 1) := by decide +kernel
theorem dX12_isLamp_27 : decode cX12_isLamp 27 = .ok (.ireturn, 1) := by decide +kernel
theorem dX12_isTrain_0 : decode cX12_isTrain 0 = .ok (.iload_n 1, 1) := by decide +kernel
theorem dX12_isTrain_1 : decode cX12_isTrain 1 = .ok (.iconst 0, 1) := by decide +kernel
theorem dX12_isTrain_2 : decode cX12_isTrain 2 = .ok (.aload_n 0, 1) := by decide +kernel
theorem dX12_isTrain_3 : decode cX12_isTrain 3 = .ok (.getfield 58, 3) := by decide +kernel
theorem dX12_isTrain_6 : decode cX12_isTrain 6 = .ok (.sipush 136, 3) := by decide +kernel
theorem dX12_isTrain_9 : decode cX12_isTrain 9 = .ok (.iaload, 1) := by decide +kernel
theorem dX12_isTrain_10 : decode cX12_isTrain 10 = .ok (.iconst 1, 1) := by decide +kernel
theorem dX12_isTrain_11 : decode cX12_isTrain 11 = .ok (.isub, 1) := by decide +kernel
theorem dX12_isTrain_12 : decode cX12_isTrain 12 = .ok (.invokestatic 238, 3) := by decide +kernel
theorem dX12_isTrain_15 : decode cX12_isTrain 15 = .ok (.ireturn, 1) := by decide +kernel
theorem dX12_leads_0 : decode cX12_leads 0 = .ok (.iload_n 2, 1) := by decide +kernel
theorem dX12_leads_1 : decode cX12_leads 1 = .ok (.iconst 5, 1) := by decide +kernel
theorem dX12_leads_2 : decode cX12_leads 2 = .ok (.if_icmp .ne 7, 3) := by decide +kernel
theorem dX12_leads_5 : decode cX12_leads 5 = .ok (.iconst (-1), 1) := by decide +kernel
theorem dX12_leads_6 : decode cX12_leads 6 = .ok (.goto 15, 3) := by decide +kernel
theorem dX12_leads_9 : decode cX12_leads 9 = .ok (.aload_n 0, 1) := by decide +kernel
theorem dX12_leads_10 : decode cX12_leads 10 = .ok (.getfield 58, 3) := by decide +kernel
theorem dX12_leads_13 : decode cX12_leads 13 = .ok (.iconst 0, 1) := by decide +kernel
theorem dX12_leads_14 : decode cX12_leads 14 = .ok (.iconst 5, 1) := by decide +kernel
theorem dX12_leads_15 : decode cX12_leads 15 = .ok (.iload_n 1, 1) := by decide +kernel
theorem dX12_leads_16 : decode cX12_leads 16 = .ok (.imul, 1) := by decide +kernel
theorem dX12_leads_17 : decode cX12_leads 17 = .ok (.iadd, 1) := by decide +kernel
theorem dX12_leads_18 : decode cX12_leads 18 = .ok (.iload_n 2, 1) := by decide +kernel
theorem dX12_leads_19 : decode cX12_leads 19 = .ok (.iadd, 1) := by decide +kernel
theorem dX12_leads_20 : decode cX12_leads 20 = .ok (.iaload, 1) := by decide +kernel
theorem dX12_leads_21 : decode cX12_leads 21 = .ok (.istore_n 3, 1) := by decide +kernel
theorem dX12_leads_22 : decode cX12_leads 22 = .ok (.iload_n 3, 1) := by decide +kernel
theorem dX12_leads_23 : decode cX12_leads 23 = .ok (.ifCond .ge 7, 3) := by decide +kernel
theorem dX12_leads_26 : decode cX12_leads 26 = .ok (.iload_n 1, 1) := by decide +kernel
theorem dX12_leads_27 : decode cX12_leads 27 = .ok (.goto 4, 3) := by decide +kernel
theorem dX12_leads_30 : decode cX12_leads 30 = .ok (.iload_n 3, 1) := by decide +kernel
theorem dX12_leads_31 : decode cX12_leads 31 = .ok (.ireturn, 1) := by decide +kernel
theorem dX12_lasts_0 : decode cX12_lasts 0 = .ok (.iload_n 2, 1) := by decide +kernel
theorem dX12_lasts_1 : decode cX12_lasts 1 = .ok (.iconst 5, 1) := by decide +kernel
theorem dX12_lasts_2 : decode cX12_lasts 2 = .ok (.if_icmp .eq 18, 3) := by decide +kernel
theorem dX12_lasts_5 : decode cX12_lasts 5 = .ok (.aload_n 0, 1) := by decide +kernel
theorem dX12_lasts_6 : decode cX12_lasts 6 = .ok (.getfield 58, 3) := by decide +kernel
theorem dX12_lasts_9 : decode cX12_lasts 9 = .ok (.iconst 0, 1) := by decide +kernel
theorem dX12_lasts_10 : decode cX12_lasts 10 = .ok (.iconst 5, 1) := by decide +kernel
theorem dX12_lasts_11 : decode cX12_lasts 11 = .ok (.iload_n 1, 1) := by decide +kernel
theorem dX12_lasts_12 : decode cX12_lasts 12 = .ok (.imul, 1) := by decide +kernel
theorem dX12_lasts_13 : decode cX12_lasts 13 = .ok (.iadd, 1) := by decide +kernel
theorem dX12_lasts_14 : decode cX12_lasts 14 = .ok (.iload_n 2, 1) := by decide +kernel
theorem dX12_lasts_15 : decode cX12_lasts 15 = .ok (.iadd, 1) := by decide +kernel
theorem dX12_lasts_16 : decode cX12_lasts 16 = .ok (.iaload, 1) := by decide +kernel
theorem dX12_lasts_17 : decode cX12_lasts 17 = .ok (.ifCond .ge 7, 3) := by decide +kernel
theorem dX12_lasts_20 : decode cX12_lasts 20 = .ok (.iconst 1, 1) := by decide +kernel
theorem dX12_lasts_21 : decode cX12_lasts 21 = .ok (.goto 16, 3) := by decide +kernel
theorem dX12_lasts_24 : decode cX12_lasts 24 = .ok (.aload_n 0, 1) := by decide +kernel
theorem dX12_lasts_25 : decode cX12_lasts 25 = .ok (.getfield 58, 3) := by decide +kernel
theorem dX12_lasts_28 : decode cX12_lasts 28 = .ok (.bipush 40, 2) := by decide +kernel
theorem dX12_lasts_30 : decode cX12_lasts 30 = .ok (.iconst 5, 1) := by decide +kernel
theorem dX12_lasts_31 : decode cX12_lasts 31 = .ok (.iload_n 1, 1) := by decide +kernel
theorem dX12_lasts_32 : decode cX12_lasts 32 = .ok (.imul, 1) := by decide +kernel
theorem dX12_lasts_33 : decode cX12_lasts 33 = .ok (.iadd, 1) := by decide +kernel
theorem dX12_lasts_34 : decode cX12_lasts 34 = .ok (.iload_n 2, 1) := by decide +kernel
theorem dX12_lasts_35 : decode cX12_lasts 35 = .ok (.iadd, 1) := by decide +kernel
theorem dX12_lasts_36 : decode cX12_lasts 36 = .ok (.iaload, 1) := by decide +kernel
theorem dX12_lasts_37 : decode cX12_lasts 37 = .ok (.ireturn, 1) := by decide +kernel
theorem dX12_price_0 : decode cX12_price 0 = .ok (.aload_n 0, 1) := by decide +kernel
theorem dX12_price_1 : decode cX12_price 1 = .ok (.iload_n 1, 1) := by decide +kernel
theorem dX12_price_2 : decode cX12_price 2 = .ok (.iload_n 2, 1) := by decide +kernel
theorem dX12_price_3 : decode cX12_price 3 = .ok (.invokevirtual 320, 3) := by decide +kernel
theorem dX12_price_6 : decode cX12_price 6 = .ok (.istore_n 3, 1) := by decide +kernel
theorem dX12_price_7 : decode cX12_price 7 = .ok (.aload_n 0, 1) := by decide +kernel
theorem dX12_price_8 : decode cX12_price 8 = .ok (.getfield 67, 3) := by decide +kernel
theorem dX12_price_11 : decode cX12_price 11 = .ok (.iconst (-1), 1) := by decide +kernel
theorem dX12_price_12 : decode cX12_price 12 = .ok (.if_icmp .eq 65, 3) := by decide +kernel
theorem dX12_price_15 : decode cX12_price 15 = .ok (.aload_n 0, 1) := by decide +kernel
theorem dX12_price_16 : decode cX12_price 16 = .ok (.getfield 34, 3) := by decide +kernel
theorem dX12_price_19 : decode cX12_price 19 = .ok (.iconst 0, 1) := by decide +kernel
theorem dX12_price_20 : decode cX12_price 20 = .ok (.iload_n 2, 1) := by decide +kernel
theorem dX12_price_21 : decode cX12_price 21 = .ok (.iastore, 1) := by decide +kernel
theorem dX12_price_22 : decode cX12_price 22 = .ok (.aload_n 0, 1) := by decide +kernel
theorem dX12_price_23 : decode cX12_price 23 = .ok (.getfield 34, 3) := by decide +kernel
theorem dX12_price_26 : decode cX12_price 26 = .ok (.iconst 1, 1) := by decide +kernel
theorem dX12_price_27 : decode cX12_price 27 = .ok (.iload_n 3, 1) := by decide +kernel
theorem dX12_price_28 : decode cX12_price 28 = .ok (.iastore, 1) := by decide +kernel
theorem dX12_price_29 : decode cX12_price 29 = .ok (.aload_n 0, 1) := by decide +kernel
theorem dX12_price_30 : decode cX12_price 30 = .ok (.getfield 34, 3) := by decide +kernel
theorem dX12_price_33 : decode cX12_price 33 = .ok (.iconst 2, 1) := by decide +kernel
theorem dX12_price_34 : decode cX12_price 34 = .ok (.iload_n 1, 1) := by decide +kernel
theorem dX12_price_35 : decode cX12_price 35 = .ok (.iastore, 1) := by decide +kernel
theorem dX12_price_36 : decode cX12_price 36 = .ok (.aload_n 0, 1) := by decide +kernel
theorem dX12_price_37 : decode cX12_price 37 = .ok (.getfield 34, 3) := by decide +kernel
theorem dX12_price_40 : decode cX12_price 40 = .ok (.iconst 3, 1) := by decide +kernel
theorem dX12_price_41 : decode cX12_price 41 = .ok (.aload_n 0, 1) := by decide +kernel
theorem dX12_price_42 : decode cX12_price 42 = .ok (.iload_n 1, 1) := by decide +kernel
theorem dX12_price_43 : decode cX12_price 43 = .ok (.iload_n 2, 1) := by decide +kernel
theorem dX12_price_44 : decode cX12_price 44 = .ok (.invokevirtual 323, 3) := by decide +kernel
theorem dX12_price_47 : decode cX12_price 47 = .ok (.iastore, 1) := by decide +kernel
theorem dX12_price_48 : decode cX12_price 48 = .ok (.aload_n 0, 1) := by decide +kernel
theorem dX12_price_49 : decode cX12_price 49 = .ok (.getfield 34, 3) := by decide +kernel
theorem dX12_price_52 : decode cX12_price 52 = .ok (.iconst 4, 1) := by decide +kernel
theorem dX12_price_53 : decode cX12_price 53 = .ok (.aload_n 0, 1) := by decide +kernel
theorem dX12_price_54 : decode cX12_price 54 = .ok (.getfield 58, 3) := by decide +kernel
theorem dX12_price_57 : decode cX12_price 57 = .ok (.bipush 80, 2) := by decide +kernel
theorem dX12_price_59 : decode cX12_price 59 = .ok (.aload_n 0, 1) := by decide +kernel
theorem dX12_price_60 : decode cX12_price 60 = .ok (.iload_n 1, 1) := by decide +kernel
theorem dX12_price_61 : decode cX12_price 61 = .ok (.iload_n 2, 1) := by decide +kernel
theorem dX12_price_62 : decode cX12_price 62 = .ok (.invokevirtual 323, 3) := by decide +kernel
theorem dX12_price_65 : decode cX12_price 65 = .ok (.iadd, 1) := by decide +kernel
theorem dX12_price_66 : decode cX12_price 66 = .ok (.iaload, 1) := by decide +kernel
theorem dX12_price_67 : decode cX12_price 67 = .ok (.iastore, 1) := by decide +kernel
theorem dX12_price_68 : decode cX12_price 68 = .ok (.aload_n 0, 1) := by decide +kernel
theorem dX12_price_69 : decode cX12_price 69 = .ok (.aload_n 0, 1) := by decide +kernel
theorem dX12_price_70 : decode cX12_price 70 = .ok (.getfield 67, 3) := by decide +kernel
theorem dX12_price_73 : decode cX12_price 73 = .ok (.invokevirtual 326, 3) := by decide +kernel
theorem dX12_price_76 : decode cX12_price 76 = .ok (.istore_n 3, 1) := by decide +kernel
theorem dX12_price_77 : decode cX12_price 77 = .ok (.iconst 0, 1) := by decide +kernel
theorem dX12_price_78 : decode cX12_price 78 = .ok (.bipush 99, 2) := by decide +kernel
theorem dX12_price_80 : decode cX12_price 80 = .ok (.iload_n 3, 1) := by decide +kernel
theorem dX12_price_81 : decode cX12_price 81 = .ok (.invokestatic 329, 3) := by decide +kernel
theorem dX12_price_84 : decode cX12_price 84 = .ok (.invokestatic 331, 3) := by decide +kernel
theorem dX12_price_87 : decode cX12_price 87 = .ok (.ireturn, 1) := by decide +kernel
theorem dX12_dark_0 : decode cX12_dark 0 = .ok (.aload_n 0, 1) := by decide +kernel
theorem dX12_dark_1 : decode cX12_dark 1 = .ok (.iload_n 1, 1) := by decide +kernel
theorem dX12_dark_2 : decode cX12_dark 2 = .ok (.invokevirtual 333, 3) := by decide +kernel
theorem dX12_dark_5 : decode cX12_dark 5 = .ok (.ifCond .eq 20, 3) := by decide +kernel
theorem dX12_dark_8 : decode cX12_dark 8 = .ok (.aload_n 0, 1) := by decide +kernel
theorem dX12_dark_9 : decode cX12_dark 9 = .ok (.iload_n 2, 1) := by decide +kernel
theorem dX12_dark_10 : decode cX12_dark 10 = .ok (.invokevirtual 336, 3) := by decide +kernel
theorem dX12_dark_13 : decode cX12_dark 13 = .ok (.ifCond .eq 12, 3) := by decide +kernel
theorem dX12_dark_16 : decode cX12_dark 16 = .ok (.iload_n 3, 1) := by decide +kernel
theorem dX12_dark_17 : decode cX12_dark 17 = .ok (.iconst 0, 1) := by decide +kernel
theorem dX12_dark_18 : decode cX12_dark 18 = .ok (.iconst 2, 1) := by decide +kernel
theorem dX12_dark_19 : decode cX12_dark 19 = .ok (.invokestatic 238, 3) := by decide +kernel
theorem dX12_dark_22 : decode cX12_dark 22 = .ok (.ifCond .ne 5, 3) := by decide +kernel
theorem dX12_dark_25 : decode cX12_dark 25 = .ok (.iconst (-1), 1) := by decide +kernel
theorem dX12_dark_26 : decode cX12_dark 26 = .ok (.ireturn, 1) := by decide +kernel
theorem dX12_dark_27 : decode cX12_dark 27 = .ok (.iload_n 3, 1) := by decide +kernel
theorem dX12_dark_28 : decode cX12_dark 28 = .ok (.ifCond .ne 29, 3) := by decide +kernel
theorem dX12_dark_31 : decode cX12_dark 31 = .ok (.iload_n 2, 1) := by decide +kernel
theorem dX12_dark_32 : decode cX12_dark 32 = .ok (.iconst 5, 1) := by decide +kernel
theorem dX12_dark_33 : decode cX12_dark 33 = .ok (.if_icmp .eq 24, 3) := by decide +kernel
theorem dX12_dark_36 : decode cX12_dark 36 = .ok (.aload_n 0, 1) := by decide +kernel
theorem dX12_dark_37 : decode cX12_dark 37 = .ok (.getfield 58, 3) := by decide +kernel
theorem dX12_dark_40 : decode cX12_dark 40 = .ok (.iconst 0, 1) := by decide +kernel
theorem dX12_dark_41 : decode cX12_dark 41 = .ok (.iconst 5, 1) := by decide +kernel
theorem dX12_dark_42 : decode cX12_dark 42 = .ok (.iload_n 1, 1) := by decide +kernel
theorem dX12_dark_43 : decode cX12_dark 43 = .ok (.imul, 1) := by decide +kernel
theorem dX12_dark_44 : decode cX12_dark 44 = .ok (.iadd, 1) := by decide +kernel
theorem dX12_dark_45 : decode cX12_dark 45 = .ok (.iload_n 2, 1) := by decide +kernel
theorem dX12_dark_46 : decode cX12_dark 46 = .ok (.iadd, 1) := by decide +kernel
theorem dX12_dark_47 : decode cX12_dark 47 = .ok (.iaload, 1) := by decide +kernel
theorem dX12_dark_48 : decode cX12_dark 48 = .ok (.bipush (-2), 2) := by decide +kernel
theorem dX12_dark_50 : decode cX12_dark 50 = .ok (.if_icmp .ne 7, 3) := by decide +kernel
theorem dX12_dark_53 : decode cX12_dark 53 = .ok (.iconst 1, 1) := by decide +kernel
theorem dX12_dark_54 : decode cX12_dark 54 = .ok (.goto 4, 3) := by decide +kernel
theorem dX12_dark_57 : decode cX12_dark 57 = .ok (.iconst 0, 1) := by decide +kernel
theorem dX12_dark_58 : decode cX12_dark 58 = .ok (.istore 4, 2) := by decide +kernel
theorem dX12_dark_60 : decode cX12_dark 60 = .ok (.iload 4, 2) := by decide +kernel
theorem dX12_dark_62 : decode cX12_dark 62 = .ok (.ifCond .eq 9, 3) := by decide +kernel
theorem dX12_dark_65 : decode cX12_dark 65 = .ok (.ldc_w 339, 3) := by decide +kernel
theorem dX12_dark_68 : decode cX12_dark 68 = .ok (.goto 36, 3) := by decide +kernel
theorem dX12_dark_71 : decode cX12_dark 71 = .ok (.iload_n 3, 1) := by decide +kernel
theorem dX12_dark_72 : decode cX12_dark 72 = .ok (.ifCond .ne 12, 3) := by decide +kernel
theorem dX12_dark_75 : decode cX12_dark 75 = .ok (.aload_n 0, 1) := by decide +kernel
theorem dX12_dark_76 : decode cX12_dark 76 = .ok (.iload_n 1, 1) := by decide +kernel
theorem dX12_dark_77 : decode cX12_dark 77 = .ok (.iload_n 2, 1) := by decide +kernel
theorem dX12_dark_78 : decode cX12_dark 78 = .ok (.invokevirtual 323, 3) := by decide +kernel
theorem dX12_dark_81 : decode cX12_dark 81 = .ok (.goto 23, 3) := by decide +kernel
theorem dX12_dark_84 : decode cX12_dark 84 = .ok (.iload_n 3, 1) := by decide +kernel
theorem dX12_dark_85 : decode cX12_dark 85 = .ok (.iconst 1, 1) := by decide +kernel
theorem dX12_dark_86 : decode cX12_dark 86 = .ok (.if_icmp .ne 12, 3) := by decide +kernel
theorem dX12_dark_89 : decode cX12_dark 89 = .ok (.aload_n 0, 1) := by decide +kernel
theorem dX12_dark_90 : decode cX12_dark 90 = .ok (.iload_n 1, 1) := by decide +kernel
theorem dX12_dark_91 : decode cX12_dark 91 = .ok (.iload_n 2, 1) := by decide +kernel
theorem dX12_dark_92 : decode cX12_dark 92 = .ok (.invokevirtual 320, 3) := by decide +kernel
theorem dX12_dark_95 : decode cX12_dark 95 = .ok (.goto 9, 3) := by decide +kernel
theorem dX12_dark_98 : decode cX12_dark 98 = .ok (.aload_n 0, 1) := by decide +kernel
theorem dX12_dark_99 : decode cX12_dark 99 = .ok (.iload_n 1, 1) := by decide +kernel
theorem dX12_dark_100 : decode cX12_dark 100 = .ok (.iload_n 2, 1) := by decide +kernel
theorem dX12_dark_101 : decode cX12_dark 101 = .ok (.invokevirtual 340, 3) := by decide +kernel
theorem dX12_dark_104 : decode cX12_dark 104 = .ok (.ireturn, 1) := by decide +kernel
theorem dX12_faded_0 : decode cX12_faded 0 = .ok (.iload_n 1, 1) := by decide +kernel
theorem dX12_faded_1 : decode cX12_faded 1 = .ok (.iconst 5, 1) := by decide +kernel
theorem dX12_faded_2 : decode cX12_faded 2 = .ok (.if_icmp .eq 16, 3) := by decide +kernel
theorem dX12_faded_5 : decode cX12_faded 5 = .ok (.aload_n 0, 1) := by decide +kernel
theorem dX12_faded_6 : decode cX12_faded 6 = .ok (.getfield 52, 3) := by decide +kernel
theorem dX12_faded_9 : decode cX12_faded 9 = .ok (.iconst 3, 1) := by decide +kernel
theorem dX12_faded_10 : decode cX12_faded 10 = .ok (.iaload, 1) := by decide +kernel
theorem dX12_faded_11 : decode cX12_faded 11 = .ok (.ifCond .eq 7, 3) := by decide +kernel
theorem dX12_faded_14 : decode cX12_faded 14 = .ok (.iload_n 2, 1) := by decide +kernel
theorem dX12_faded_15 : decode cX12_faded 15 = .ok (.ifCond .gt 5, 3) := by decide +kernel
theorem dX12_faded_18 : decode cX12_faded 18 = .ok (.iload_n 1, 1) := by decide +kernel
theorem dX12_faded_19 : decode cX12_faded 19 = .ok (.ireturn, 1) := by decide +kernel
theorem dX12_faded_20 : decode cX12_faded 20 = .ok (.iload_n 1, 1) := by decide +kernel
theorem dX12_faded_21 : decode cX12_faded 21 = .ok (.iload_n 2, 1) := by decide +kernel
theorem dX12_faded_22 : decode cX12_faded 22 = .ok (.aload_n 0, 1) := by decide +kernel
theorem dX12_faded_23 : decode cX12_faded 23 = .ok (.getfield 52, 3) := by decide +kernel
theorem dX12_faded_26 : decode cX12_faded 26 = .ok (.iconst 3, 1) := by decide +kernel
theorem dX12_faded_27 : decode cX12_faded 27 = .ok (.iaload, 1) := by decide +kernel
theorem dX12_faded_28 : decode cX12_faded 28 = .ok (.idiv, 1) := by decide +kernel
theorem dX12_faded_29 : decode cX12_faded 29 = .ok (.isub, 1) := by decide +kernel
theorem dX12_faded_30 : decode cX12_faded 30 = .ok (.istore_n 3, 1) := by decide +kernel
theorem dX12_faded_31 : decode cX12_faded 31 = .ok (.iload_n 3, 1) := by decide +kernel
theorem dX12_faded_32 : decode cX12_faded 32 = .ok (.ifCond .ge 7, 3) := by decide +kernel
theorem dX12_faded_35 : decode cX12_faded 35 = .ok (.iconst 5, 1) := by decide +kernel
theorem dX12_faded_36 : decode cX12_faded 36 = .ok (.goto 4, 3) := by decide +kernel
theorem dX12_faded_39 : decode cX12_faded 39 = .ok (.iload_n 3, 1) := by decide +kernel
theorem dX12_faded_40 : decode cX12_faded 40 = .ok (.ireturn, 1) := by decide +kernel
theorem dX12_lampOf_0 : decode cX12_lampOf 0 = .ok (.aload_n 0, 1) := by decide +kernel
theorem dX12_lampOf_1 : decode cX12_lampOf 1 = .ok (.aload_n 0, 1) := by decide +kernel
theorem dX12_lampOf_2 : decode cX12_lampOf 2 = .ok (.iload_n 1, 1) := by decide +kernel
theorem dX12_lampOf_3 : decode cX12_lampOf 3 = .ok (.iconst 1, 1) := by decide +kernel
theorem dX12_lampOf_4 : decode cX12_lampOf 4 = .ok (.invokevirtual 343, 3) := by decide +kernel
theorem dX12_lampOf_7 : decode cX12_lampOf 7 = .ok (.aload_n 0, 1) := by decide +kernel
theorem dX12_lampOf_8 : decode cX12_lampOf 8 = .ok (.getfield 58, 3) := by decide +kernel
theorem dX12_lampOf_11 : decode cX12_lampOf 11 = .ok (.sipush 137, 3) := by decide +kernel
theorem dX12_lampOf_14 : decode cX12_lampOf 14 = .ok (.iaload, 1) := by decide +kernel
theorem dX12_lampOf_15 : decode cX12_lampOf 15 = .ok (.aload_n 0, 1) := by decide +kernel
theorem dX12_lampOf_16 : decode cX12_lampOf 16 = .ok (.iload_n 1, 1) := by decide +kernel
theorem dX12_lampOf_17 : decode cX12_lampOf 17 = .ok (.iconst 2, 1) := by decide +kernel
theorem dX12_lampOf_18 : decode cX12_lampOf 18 = .ok (.invokevirtual 343, 3) := by decide +kernel
theorem dX12_lampOf_21 : decode cX12_lampOf 21 = .ok (.isub, 1) := by decide +kernel
theorem dX12_lampOf_22 : decode cX12_lampOf 22 = .ok (.invokevirtual 346, 3) := by decide +kernel
theorem dX12_lampOf_25 : decode cX12_lampOf 25 = .ok (.ireturn, 1) := by decide +kernel
theorem dX12_train_0 : decode cX12_train 0 = .ok (.aload_n 0, 1) := by decide +kernel
theorem dX12_train_1 : decode cX12_train 1 = .ok (.aload_n 0, 1) := by decide +kernel
theorem dX12_train_2 : decode cX12_train 2 = .ok (.iload_n 1, 1) := by decide +kernel
theorem dX12_train_3 : decode cX12_train 3 = .ok (.invokevirtual 349, 3) := by decide +kernel
theorem dX12_train_6 : decode cX12_train 6 = .ok (.ifCond .eq 16, 3) := by decide +kernel
theorem dX12_train_9 : decode cX12_train 9 = .ok (.iload_n 2, 1) := by decide +kernel
theorem dX12_train_10 : decode cX12_train 10 = .ok (.iconst 0, 1) := by decide +kernel
theorem dX12_train_11 : decode cX12_train 11 = .ok (.iconst 3, 1) := by decide +kernel
theorem dX12_train_12 : decode cX12_train 12 = .ok (.invokestatic 238, 3) := by decide +kernel
theorem dX12_train_15 : decode cX12_train 15 = .ok (.ifCond .eq 7, 3) := by decide +kernel
theorem dX12_train_18 : decode cX12_train 18 = .ok (.iconst 0, 1) := by decide +kernel
theorem dX12_train_19 : decode cX12_train 19 = .ok (.goto 4, 3) := by decide +kernel
theorem dX12_train_22 : decode cX12_train 22 = .ok (.iconst 1, 1) := by decide +kernel
theorem dX12_train_23 : decode cX12_train 23 = .ok (.putfield 123, 3) := by decide +kernel
theorem dX12_train_26 : decode cX12_train 26 = .ok (.aload_n 0, 1) := by decide +kernel
theorem dX12_train_27 : decode cX12_train 27 = .ok (.getfield 123, 3) := by decide +kernel
theorem dX12_train_30 : decode cX12_train 30 = .ok (.iconst 1, 1) := by decide +kernel
theorem dX12_train_31 : decode cX12_train 31 = .ok (.if_icmp .ne 5, 3) := by decide +kernel
theorem dX12_train_34 : decode cX12_train 34 = .ok (.iconst 0, 1) := by decide +kernel
theorem dX12_train_35 : decode cX12_train 35 = .ok (.ireturn, 1) := by decide +kernel
theorem dX12_train_36 : decode cX12_train 36 = .ok (.iload_n 2, 1) := by decide +kernel
theorem dX12_train_37 : decode cX12_train 37 = .ok (.ifCond .ne 12, 3) := by decide +kernel
theorem dX12_train_40 : decode cX12_train 40 = .ok (.aload_n 0, 1) := by decide +kernel
theorem dX12_train_41 : decode cX12_train 41 = .ok (.iload_n 1, 1) := by decide +kernel
theorem dX12_train_42 : decode cX12_train 42 = .ok (.iconst 0, 1) := by decide +kernel
theorem dX12_train_43 : decode cX12_train 43 = .ok (.invokevirtual 343, 3) := by decide +kernel
theorem dX12_train_46 : decode cX12_train 46 = .ok (.goto 45, 3) := by decide +kernel
theorem dX12_train_49 : decode cX12_train 49 = .ok (.iload_n 2, 1) := by decide +kernel
theorem dX12_train_50 : decode cX12_train 50 = .ok (.iconst 1, 1) := by decide +kernel
theorem dX12_train_51 : decode cX12_train 51 = .ok (.if_icmp .ne 11, 3) := by decide +kernel
theorem dX12_train_54 : decode cX12_train 54 = .ok (.aload_n 0, 1) := by decide +kernel
theorem dX12_train_55 : decode cX12_train 55 = .ok (.iload_n 1, 1) := by decide +kernel
theorem dX12_train_56 : decode cX12_train 56 = .ok (.invokevirtual 352, 3) := by decide +kernel
theorem dX12_train_59 : decode cX12_train 59 = .ok (.goto 32, 3) := by decide +kernel
theorem dX12_train_62 : decode cX12_train 62 = .ok (.iload_n 2, 1) := by decide +kernel
theorem dX12_train_63 : decode cX12_train 63 = .ok (.iconst 2, 1) := by decide +kernel
theorem dX12_train_64 : decode cX12_train 64 = .ok (.if_icmp .ne 12, 3) := by decide +kernel
theorem dX12_train_67 : decode cX12_train 67 = .ok (.aload_n 0, 1) := by decide +kernel
theorem dX12_train_68 : decode cX12_train 68 = .ok (.iload_n 1, 1) := by decide +kernel
theorem dX12_train_69 : decode cX12_train 69 = .ok (.iconst 4, 1) := by decide +kernel
theorem dX12_train_70 : decode cX12_train 70 = .ok (.invokevirtual 343, 3) := by decide +kernel
theorem dX12_train_73 : decode cX12_train 73 = .ok (.goto 18, 3) := by decide +kernel
theorem dX12_train_76 : decode cX12_train 76 = .ok (.aload_n 0, 1) := by decide +kernel
theorem dX12_train_77 : decode cX12_train 77 = .ok (.iload_n 1, 1) := by decide +kernel
theorem dX12_train_78 : decode cX12_train 78 = .ok (.iconst 5, 1) := by decide +kernel
theorem dX12_train_79 : decode cX12_train 79 = .ok (.invokevirtual 343, 3) := by decide +kernel
theorem dX12_train_82 : decode cX12_train 82 = .ok (.iconst (-1), 1) := by decide +kernel
theorem dX12_train_83 : decode cX12_train 83 = .ok (.if_icmp .ne 7, 3) := by decide +kernel
theorem dX12_train_86 : decode cX12_train 86 = .ok (.iconst 0, 1) := by decide +kernel
theorem dX12_train_87 : decode cX12_train 87 = .ok (.goto 4, 3) := by decide +kernel
theorem dX12_train_90 : decode cX12_train 90 = .ok (.iconst 1, 1) := by decide +kernel
theorem dX12_train_91 : decode cX12_train 91 = .ok (.ireturn, 1) := by decide +kernel
theorem dX12_guards_0 : decode cX12_guards 0 = .ok (.aload_n 0, 1) := by decide +kernel
theorem dX12_guards_1 : decode cX12_guards 1 = .ok (.iload_n 1, 1) := by decide +kernel
theorem dX12_guards_2 : decode cX12_guards 2 = .ok (.invokevirtual 333, 3) := by decide +kernel
theorem dX12_guards_5 : decode cX12_guards 5 = .ok (.ifCond .eq 15, 3) := by decide +kernel
theorem dX12_guards_8 : decode cX12_guards 8 = .ok (.aload_n 0, 1) := by decide +kernel
theorem dX12_guards_9 : decode cX12_guards 9 = .ok (.getfield 58, 3) := by decide +kernel
theorem dX12_guards_12 : decode cX12_guards 12 = .ok (.bipush 80, 2) := by decide +kernel
theorem dX12_guards_14 : decode cX12_guards 14 = .ok (.iload_n 1, 1) := by decide +kernel
theorem dX12_guards_15 : decode cX12_guards 15 = .ok (.iadd, 1) := by decide +kernel
theorem dX12_guards_16 : decode cX12_guards 16 = .ok (.iaload, 1) := by decide +kernel
theorem dX12_guards_17 : decode cX12_guards 17 = .ok (.goto 4, 3) := by decide +kernel
theorem dX12_guards_20 : decode cX12_guards 20 = .ok (.iconst (-1), 1) := by decide +kernel
theorem dX12_guards_21 : decode cX12_guards 21 = .ok (.ireturn, 1) := by decide +kernel
theorem dX12_law_0 : decode cX12_law 0 = .ok (.iload_n 1, 1) := by decide +kernel
theorem dX12_law_1 : decode cX12_law 1 = .ok (.iconst (-1), 1) := by decide +kernel
theorem dX12_law_2 : decode cX12_law 2 = .ok (.aload_n 0, 1) := by decide +kernel
theorem dX12_law_3 : decode cX12_law 3 = .ok (.getfield 314, 3) := by decide +kernel
theorem dX12_law_6 : decode cX12_law 6 = .ok (.iconst 1, 1) := by decide +kernel
theorem dX12_law_7 : decode cX12_law 7 = .ok (.isub, 1) := by decide +kernel
theorem dX12_law_8 : decode cX12_law 8 = .ok (.invokestatic 238, 3) := by decide +kernel
theorem dX12_law_11 : decode cX12_law 11 = .ok (.ifCond .ne 5, 3) := by decide +kernel
theorem dX12_law_14 : decode cX12_law 14 = .ok (.iconst 0, 1) := by decide +kernel
theorem dX12_law_15 : decode cX12_law 15 = .ok (.ireturn, 1) := by decide +kernel
theorem dX12_law_16 : decode cX12_law 16 = .ok (.aload_n 0, 1) := by decide +kernel
theorem dX12_law_17 : decode cX12_law 17 = .ok (.iload_n 1, 1) := by decide +kernel
theorem dX12_law_18 : decode cX12_law 18 = .ok (.putfield 67, 3) := by decide +kernel
theorem dX12_law_21 : decode cX12_law 21 = .ok (.iconst 1, 1) := by decide +kernel
theorem dX12_law_22 : decode cX12_law 22 = .ok (.ireturn, 1) := by decide +kernel
theorem dX12_keep_0 : decode cX12_keep 0 = .ok (.aload_n 0, 1) := by decide +kernel
theorem dX12_keep_1 : decode cX12_keep 1 = .ok (.getfield 304, 3) := by decide +kernel
theorem dX12_keep_4 : decode cX12_keep 4 = .ok (.bipush 40, 2) := by decide +kernel
theorem dX12_keep_6 : decode cX12_keep 6 = .ok (.if_icmp .ne 46, 3) := by decide +kernel
theorem dX12_keep_9 : decode cX12_keep 9 = .ok (.sipush 320, 3) := by decide +kernel
theorem dX12_keep_12 : decode cX12_keep 12 = .ok (.istore_n 1, 1) := by decide +kernel
theorem dX12_keep_13 : decode cX12_keep 13 = .ok (.iload_n 1, 1) := by decide +kernel
theorem dX12_keep_14 : decode cX12_keep 14 = .ok (.sipush 12800, 3) := by decide +kernel
theorem dX12_keep_17 : decode cX12_keep 17 = .ok (.if_icmp .ge 25, 3) := by decide +kernel
theorem dX12_keep_20 : decode cX12_keep 20 = .ok (.aload_n 0, 1) := by decide +kernel
theorem dX12_keep_21 : decode cX12_keep 21 = .ok (.getfield 71, 3) := by decide +kernel
theorem dX12_keep_24 : decode cX12_keep 24 = .ok (.iload_n 1, 1) := by decide +kernel
theorem dX12_keep_25 : decode cX12_keep 25 = .ok (.sipush 320, 3) := by decide +kernel
theorem dX12_keep_28 : decode cX12_keep 28 = .ok (.isub, 1) := by decide +kernel
theorem dX12_keep_29 : decode cX12_keep 29 = .ok (.aload_n 0, 1) := by decide +kernel
theorem dX12_keep_30 : decode cX12_keep 30 = .ok (.getfield 71, 3) := by decide +kernel
theorem dX12_keep_33 : decode cX12_keep 33 = .ok (.iload_n 1, 1) := by decide +kernel
theorem dX12_keep_34 : decode cX12_keep 34 = .ok (.iaload, 1) := by decide +kernel
theorem dX12_keep_35 : decode cX12_keep 35 = .ok (.iastore, 1) := by decide +kernel
theorem dX12_keep_36 : decode cX12_keep 36 = .ok (.iinc 1 1, 3) := by decide +kernel
theorem dX12_keep_39 : decode cX12_keep 39 = .ok (.goto (-26), 3) := by decide +kernel
theorem dX12_keep_42 : decode cX12_keep 42 = .ok (.aload_n 0, 1) := by decide +kernel
theorem dX12_keep_43 : decode cX12_keep 43 = .ok (.dup, 1) := by decide +kernel
theorem dX12_keep_44 : decode cX12_keep 44 = .ok (.getfield 304, 3) := by decide +kernel
theorem dX12_keep_47 : decode cX12_keep 47 = .ok (.iconst 1, 1) := by decide +kernel
theorem dX12_keep_48 : decode cX12_keep 48 = .ok (.isub, 1) := by decide +kernel
theorem dX12_keep_49 : decode cX12_keep 49 = .ok (.putfield 304, 3) := by decide +kernel
theorem dX12_keep_52 : decode cX12_keep 52 = .ok (.iconst 0, 1) := by decide +kernel
theorem dX12_keep_53 : decode cX12_keep 53 = .ok (.istore_n 1, 1) := by decide +kernel
theorem dX12_keep_54 : decode cX12_keep 54 = .ok (.iload_n 1, 1) := by decide +kernel
theorem dX12_keep_55 : decode cX12_keep 55 = .ok (.sipush 320, 3) := by decide +kernel
theorem dX12_keep_58 : decode cX12_keep 58 = .ok (.if_icmp .ge 30, 3) := by decide +kernel
theorem dX12_keep_61 : decode cX12_keep 61 = .ok (.aload_n 0, 1) := by decide +kernel
theorem dX12_keep_62 : decode cX12_keep 62 = .ok (.getfield 71, 3) := by decide +kernel
theorem dX12_keep_65 : decode cX12_keep 65 = .ok (.sipush 320, 3) := by decide +kernel
theorem dX12_keep_68 : decode cX12_keep 68 = .ok (.aload_n 0, 1) := by decide +kernel
theorem dX12_keep_69 : decode cX12_keep 69 = .ok (.getfield 304, 3) := by decide +kernel
theorem dX12_keep_72 : decode cX12_keep 72 = .ok (.imul, 1) := by decide +kernel
theorem dX12_keep_73 : decode cX12_keep 73 = .ok (.iload_n 1, 1) := by decide +kernel
theorem dX12_keep_74 : decode cX12_keep 74 = .ok (.iadd, 1) := by decide +kernel
theorem dX12_keep_75 : decode cX12_keep 75 = .ok (.aload_n 0, 1) := by decide +kernel
theorem dX12_keep_76 : decode cX12_keep 76 = .ok (.getfield 58, 3) := by decide +kernel
theorem dX12_keep_79 : decode cX12_keep 79 = .ok (.iload_n 1, 1) := by decide +kernel
theorem dX12_keep_80 : decode cX12_keep 80 = .ok (.iaload, 1) := by decide +kernel
theorem dX12_keep_81 : decode cX12_keep 81 = .ok (.iastore, 1) := by decide +kernel
theorem dX12_keep_82 : decode cX12_keep 82 = .ok (.iinc 1 1, 3) := by decide +kernel
theorem dX12_keep_85 : decode cX12_keep 85 = .ok (.goto (-31), 3) := by decide +kernel
theorem dX12_keep_88 : decode cX12_keep 88 = .ok (.aload_n 0, 1) := by decide +kernel
theorem dX12_keep_89 : decode cX12_keep 89 = .ok (.dup, 1) := by decide +kernel
theorem dX12_keep_90 : decode cX12_keep 90 = .ok (.getfield 304, 3) := by decide +kernel
theorem dX12_keep_93 : decode cX12_keep 93 = .ok (.iconst 1, 1) := by decide +kernel
theorem dX12_keep_94 : decode cX12_keep 94 = .ok (.iadd, 1) := by decide +kernel
theorem dX12_keep_95 : decode cX12_keep 95 = .ok (.putfield 304, 3) := by decide +kernel
theorem dX12_keep_98 : decode cX12_keep 98 = .ok (.return_, 1) := by decide +kernel
theorem dX12_sent_0 : decode cX12_sent 0 = .ok (.aload_n 0, 1) := by decide +kernel
theorem dX12_sent_1 : decode cX12_sent 1 = .ok (.iload_n 1, 1) := by decide +kernel
theorem dX12_sent_2 : decode cX12_sent 2 = .ok (.invokevirtual 333, 3) := by decide +kernel
theorem dX12_sent_5 : decode cX12_sent 5 = .ok (.ifCond .eq 34, 3) := by decide +kernel
theorem dX12_sent_8 : decode cX12_sent 8 = .ok (.aload_n 0, 1) := by decide +kernel
theorem dX12_sent_9 : decode cX12_sent 9 = .ok (.iload_n 2, 1) := by decide +kernel
theorem dX12_sent_10 : decode cX12_sent 10 = .ok (.invokevirtual 336, 3) := by decide +kernel
theorem dX12_sent_13 : decode cX12_sent 13 = .ok (.ifCond .eq 26, 3) := by decide +kernel
theorem dX12_sent_16 : decode cX12_sent 16 = .ok (.iload_n 3, 1) := by decide +kernel
theorem dX12_sent_17 : decode cX12_sent 17 = .ok (.iconst 0, 1) := by decide +kernel
theorem dX12_sent_18 : decode cX12_sent 18 = .ok (.bipush 9, 2) := by decide +kernel
theorem dX12_sent_20 : decode cX12_sent 20 = .ok (.invokestatic 238, 3) := by decide +kernel
theorem dX12_sent_23 : decode cX12_sent 23 = .ok (.ifCond .eq 16, 3) := by decide +kernel
theorem dX12_sent_26 : decode cX12_sent 26 = .ok (.aload_n 0, 1) := by decide +kernel
theorem dX12_sent_27 : decode cX12_sent 27 = .ok (.getfield 58, 3) := by decide +kernel
theorem dX12_sent_30 : decode cX12_sent 30 = .ok (.sipush 136, 3) := by decide +kernel
theorem dX12_sent_33 : decode cX12_sent 33 = .ok (.iaload, 1) := by decide +kernel
theorem dX12_sent_34 : decode cX12_sent 34 = .ok (.bipush 8, 2) := by decide +kernel
theorem dX12_sent_36 : decode cX12_sent 36 = .ok (.if_icmp .ne 5, 3) := by decide +kernel
theorem dX12_sent_39 : decode cX12_sent 39 = .ok (.iconst (-1), 1) := by decide +kernel
theorem dX12_sent_40 : decode cX12_sent 40 = .ok (.ireturn, 1) := by decide +kernel
theorem dX12_sent_41 : decode cX12_sent 41 = .ok (.aload_n 0, 1) := by decide +kernel
theorem dX12_sent_42 : decode cX12_sent 42 = .ok (.invokevirtual 355, 3) := by decide +kernel
theorem dX12_sent_45 : decode cX12_sent 45 = .ok (.aload_n 0, 1) := by decide +kernel
theorem dX12_sent_46 : decode cX12_sent 46 = .ok (.aload_n 0, 1) := by decide +kernel
theorem dX12_sent_47 : decode cX12_sent 47 = .ok (.getfield 58, 3) := by decide +kernel
theorem dX12_sent_50 : decode cX12_sent 50 = .ok (.sipush 136, 3) := by decide +kernel
theorem dX12_sent_53 : decode cX12_sent 53 = .ok (.iaload, 1) := by decide +kernel
theorem dX12_sent_54 : decode cX12_sent 54 = .ok (.iload_n 1, 1) := by decide +kernel
theorem dX12_sent_55 : decode cX12_sent 55 = .ok (.iload_n 2, 1) := by decide +kernel
theorem dX12_sent_56 : decode cX12_sent 56 = .ok (.aload_n 0, 1) := by decide +kernel
theorem dX12_sent_57 : decode cX12_sent 57 = .ok (.getfield 58, 3) := by decide +kernel
theorem dX12_sent_60 : decode cX12_sent 60 = .ok (.sipush 137, 3) := by decide +kernel
theorem dX12_sent_63 : decode cX12_sent 63 = .ok (.iaload, 1) := by decide +kernel
theorem dX12_sent_64 : decode cX12_sent 64 = .ok (.iload_n 3, 1) := by decide +kernel
theorem dX12_sent_65 : decode cX12_sent 65 = .ok (.invokevirtual 297, 3) := by decide +kernel
theorem dX12_sent_68 : decode cX12_sent 68 = .ok (.aload_n 0, 1) := by decide +kernel
theorem dX12_sent_69 : decode cX12_sent 69 = .ok (.getfield 58, 3) := by decide +kernel
theorem dX12_sent_72 : decode cX12_sent 72 = .ok (.sipush 136, 3) := by decide +kernel
theorem dX12_sent_75 : decode cX12_sent 75 = .ok (.dup2, 1) := by decide +kernel
theorem dX12_sent_76 : decode cX12_sent 76 = .ok (.iaload, 1) := by decide +kernel
theorem dX12_sent_77 : decode cX12_sent 77 = .ok (.iconst 1, 1) := by decide +kernel
theorem dX12_sent_78 : decode cX12_sent 78 = .ok (.iadd, 1) := by decide +kernel
theorem dX12_sent_79 : decode cX12_sent 79 = .ok (.iastore, 1) := by decide +kernel
theorem dX12_sent_80 : decode cX12_sent 80 = .ok (.aload_n 0, 1) := by decide +kernel
theorem dX12_sent_81 : decode cX12_sent 81 = .ok (.getfield 58, 3) := by decide +kernel
theorem dX12_sent_84 : decode cX12_sent 84 = .ok (.sipush 136, 3) := by decide +kernel
theorem dX12_sent_87 : decode cX12_sent 87 = .ok (.iaload, 1) := by decide +kernel
theorem dX12_sent_88 : decode cX12_sent 88 = .ok (.iconst 1, 1) := by decide +kernel
theorem dX12_sent_89 : decode cX12_sent 89 = .ok (.isub, 1) := by decide +kernel
theorem dX12_sent_90 : decode cX12_sent 90 = .ok (.ireturn, 1) := by decide +kernel
theorem dX12_lamp_0 : decode cX12_lamp 0 = .ok (.aload_n 0, 1) := by decide +kernel
theorem dX12_lamp_1 : decode cX12_lamp 1 = .ok (.iload_n 1, 1) := by decide +kernel
theorem dX12_lamp_2 : decode cX12_lamp 2 = .ok (.invokevirtual 349, 3) := by decide +kernel
theorem dX12_lamp_5 : decode cX12_lamp 5 = .ok (.ifCond .eq 21, 3) := by decide +kernel
theorem dX12_lamp_8 : decode cX12_lamp 8 = .ok (.aload_n 0, 1) := by decide +kernel
theorem dX12_lamp_9 : decode cX12_lamp 9 = .ok (.iload_n 2, 1) := by decide +kernel
theorem dX12_lamp_10 : decode cX12_lamp 10 = .ok (.invokevirtual 336, 3) := by decide +kernel
theorem dX12_lamp_13 : decode cX12_lamp 13 = .ok (.ifCond .eq 13, 3) := by decide +kernel
theorem dX12_lamp_16 : decode cX12_lamp 16 = .ok (.aload_n 0, 1) := by decide +kernel
theorem dX12_lamp_17 : decode cX12_lamp 17 = .ok (.iload_n 1, 1) := by decide +kernel
theorem dX12_lamp_18 : decode cX12_lamp 18 = .ok (.iconst 5, 1) := by decide +kernel
theorem dX12_lamp_19 : decode cX12_lamp 19 = .ok (.invokevirtual 343, 3) := by decide +kernel
theorem dX12_lamp_22 : decode cX12_lamp 22 = .ok (.iconst (-1), 1) := by decide +kernel
theorem dX12_lamp_23 : decode cX12_lamp 23 = .ok (.if_icmp .eq 5, 3) := by decide +kernel
theorem dX12_lamp_26 : decode cX12_lamp 26 = .ok (.iconst (-1), 1) := by decide +kernel
theorem dX12_lamp_27 : decode cX12_lamp 27 = .ok (.ireturn, 1) := by decide +kernel
theorem dX12_lamp_28 : decode cX12_lamp 28 = .ok (.aload_n 0, 1) := by decide +kernel
theorem dX12_lamp_29 : decode cX12_lamp 29 = .ok (.invokevirtual 355, 3) := by decide +kernel
theorem dX12_lamp_32 : decode cX12_lamp 32 = .ok (.aload_n 0, 1) := by decide +kernel
theorem dX12_lamp_33 : decode cX12_lamp 33 = .ok (.iload_n 1, 1) := by decide +kernel
theorem dX12_lamp_34 : decode cX12_lamp 34 = .ok (.invokevirtual 352, 3) := by decide +kernel
theorem dX12_lamp_37 : decode cX12_lamp 37 = .ok (.istore_n 3, 1) := by decide +kernel
theorem dX12_lamp_38 : decode cX12_lamp 38 = .ok (.aload_n 0, 1) := by decide +kernel
theorem dX12_lamp_39 : decode cX12_lamp 39 = .ok (.iload_n 1, 1) := by decide +kernel
theorem dX12_lamp_40 : decode cX12_lamp 40 = .ok (.iconst 1, 1) := by decide +kernel
theorem dX12_lamp_41 : decode cX12_lamp 41 = .ok (.iload_n 2, 1) := by decide +kernel
theorem dX12_lamp_42 : decode cX12_lamp 42 = .ok (.invokevirtual 288, 3) := by decide +kernel
theorem dX12_lamp_45 : decode cX12_lamp 45 = .ok (.aload_n 0, 1) := by decide +kernel
theorem dX12_lamp_46 : decode cX12_lamp 46 = .ok (.iload_n 1, 1) := by decide +kernel
theorem dX12_lamp_47 : decode cX12_lamp 47 = .ok (.iconst 2, 1) := by decide +kernel
theorem dX12_lamp_48 : decode cX12_lamp 48 = .ok (.aload_n 0, 1) := by decide +kernel
theorem dX12_lamp_49 : decode cX12_lamp 49 = .ok (.getfield 58, 3) := by decide +kernel
theorem dX12_lamp_52 : decode cX12_lamp 52 = .ok (.sipush 137, 3) := by decide +kernel
theorem dX12_lamp_55 : decode cX12_lamp 55 = .ok (.iaload, 1) := by decide +kernel
theorem dX12_lamp_56 : decode cX12_lamp 56 = .ok (.invokevirtual 288, 3) := by decide +kernel
theorem dX12_lamp_59 : decode cX12_lamp 59 = .ok (.iload_n 3, 1) := by decide +kernel
theorem dX12_lamp_60 : decode cX12_lamp 60 = .ok (.ireturn, 1) := by decide +kernel
theorem dX12_show_0 : decode cX12_show 0 = .ok (.aload_n 0, 1) := by decide +kernel
theorem dX12_show_1 : decode cX12_show 1 = .ok (.iload_n 1, 1) := by decide +kernel
theorem dX12_show_2 : decode cX12_show 2 = .ok (.invokevirtual 333, 3) := by decide +kernel
theorem dX12_show_5 : decode cX12_show 5 = .ok (.ifCond .eq 19, 3) := by decide +kernel
theorem dX12_show_8 : decode cX12_show 8 = .ok (.aload_n 0, 1) := by decide +kernel
theorem dX12_show_9 : decode cX12_show 9 = .ok (.iload_n 2, 1) := by decide +kernel
theorem dX12_show_10 : decode cX12_show 10 = .ok (.invokevirtual 317, 3) := by decide +kernel
theorem dX12_show_13 : decode cX12_show 13 = .ok (.ifCond .eq 11, 3) := by decide +kernel
theorem dX12_show_16 : decode cX12_show 16 = .ok (.aload_n 0, 1) := by decide +kernel
theorem dX12_show_17 : decode cX12_show 17 = .ok (.iload_n 3, 1) := by decide +kernel
theorem dX12_show_18 : decode cX12_show 18 = .ok (.invokevirtual 333, 3) := by decide +kernel
theorem dX12_show_21 : decode cX12_show 21 = .ok (.ifCond .ne 5, 3) := by decide +kernel
theorem dX12_show_24 : decode cX12_show 24 = .ok (.iconst (-1), 1) := by decide +kernel
theorem dX12_show_25 : decode cX12_show 25 = .ok (.ireturn, 1) := by decide +kernel
theorem dX12_show_26 : decode cX12_show 26 = .ok (.iconst 5, 1) := by decide +kernel
theorem dX12_show_27 : decode cX12_show 27 = .ok (.iload_n 1, 1) := by decide +kernel
theorem dX12_show_28 : decode cX12_show 28 = .ok (.imul, 1) := by decide +kernel
theorem dX12_show_29 : decode cX12_show 29 = .ok (.iload_n 2, 1) := by decide +kernel
theorem dX12_show_30 : decode cX12_show 30 = .ok (.iadd, 1) := by decide +kernel
theorem dX12_show_31 : decode cX12_show 31 = .ok (.istore 4, 2) := by decide +kernel
theorem dX12_show_33 : decode cX12_show 33 = .ok (.aload_n 0, 1) := by decide +kernel
theorem dX12_show_34 : decode cX12_show 34 = .ok (.getfield 58, 3) := by decide +kernel
theorem dX12_show_37 : decode cX12_show 37 = .ok (.iconst 0, 1) := by decide +kernel
theorem dX12_show_38 : decode cX12_show 38 = .ok (.iload 4, 2) := by decide +kernel
theorem dX12_show_40 : decode cX12_show 40 = .ok (.iadd, 1) := by decide +kernel
theorem dX12_show_41 : decode cX12_show 41 = .ok (.iaload, 1) := by decide +kernel
theorem dX12_show_42 : decode cX12_show 42 = .ok (.bipush (-2), 2) := by decide +kernel
theorem dX12_show_44 : decode cX12_show 44 = .ok (.if_icmp .ne 7, 3) := by decide +kernel
theorem dX12_show_47 : decode cX12_show 47 = .ok (.iconst 1, 1) := by decide +kernel
theorem dX12_show_48 : decode cX12_show 48 = .ok (.goto 4, 3) := by decide +kernel
theorem dX12_show_51 : decode cX12_show 51 = .ok (.iconst 0, 1) := by decide +kernel
theorem dX12_show_52 : decode cX12_show 52 = .ok (.istore 5, 2) := by decide +kernel
theorem dX12_show_54 : decode cX12_show 54 = .ok (.iload 5, 2) := by decide +kernel
theorem dX12_show_56 : decode cX12_show 56 = .ok (.ifCond .eq 9, 3) := by decide +kernel
theorem dX12_show_59 : decode cX12_show 59 = .ok (.ldc_w 339, 3) := by decide +kernel
theorem dX12_show_62 : decode cX12_show 62 = .ok (.goto 9, 3) := by decide +kernel
theorem dX12_show_65 : decode cX12_show 65 = .ok (.aload_n 0, 1) := by decide +kernel
theorem dX12_show_66 : decode cX12_show 66 = .ok (.iload_n 1, 1) := by decide +kernel
theorem dX12_show_67 : decode cX12_show 67 = .ok (.iload_n 2, 1) := by decide +kernel
theorem dX12_show_68 : decode cX12_show 68 = .ok (.invokevirtual 323, 3) := by decide +kernel
theorem dX12_show_71 : decode cX12_show 71 = .ok (.istore 6, 2) := by decide +kernel
theorem dX12_show_73 : decode cX12_show 73 = .ok (.iload 6, 2) := by decide +kernel
theorem dX12_show_75 : decode cX12_show 75 = .ok (.iload_n 3, 1) := by decide +kernel
theorem dX12_show_76 : decode cX12_show 76 = .ok (.if_icmp .ne 5, 3) := by decide +kernel
theorem dX12_show_79 : decode cX12_show 79 = .ok (.iconst (-1), 1) := by decide +kernel
theorem dX12_show_80 : decode cX12_show 80 = .ok (.ireturn, 1) := by decide +kernel
theorem dX12_show_81 : decode cX12_show 81 = .ok (.aload_n 0, 1) := by decide +kernel
theorem dX12_show_82 : decode cX12_show 82 = .ok (.invokevirtual 355, 3) := by decide +kernel
theorem dX12_show_85 : decode cX12_show 85 = .ok (.aload_n 0, 1) := by decide +kernel
theorem dX12_show_86 : decode cX12_show 86 = .ok (.getfield 58, 3) := by decide +kernel
theorem dX12_show_89 : decode cX12_show 89 = .ok (.iconst 0, 1) := by decide +kernel
theorem dX12_show_90 : decode cX12_show 90 = .ok (.iload 4, 2) := by decide +kernel
theorem dX12_show_92 : decode cX12_show 92 = .ok (.iadd, 1) := by decide +kernel
theorem dX12_show_93 : decode cX12_show 93 = .ok (.iload_n 3, 1) := by decide +kernel
theorem dX12_show_94 : decode cX12_show 94 = .ok (.iastore, 1) := by decide +kernel
theorem dX12_show_95 : decode cX12_show 95 = .ok (.iload 6, 2) := by decide +kernel
theorem dX12_show_97 : decode cX12_show 97 = .ok (.ireturn, 1) := by decide +kernel
theorem dX12_guard_0 : decode cX12_guard 0 = .ok (.aload_n 0, 1) := by decide +kernel
theorem dX12_guard_1 : decode cX12_guard 1 = .ok (.iload_n 1, 1) := by decide +kernel
theorem dX12_guard_2 : decode cX12_guard 2 = .ok (.invokevirtual 333, 3) := by decide +kernel
theorem dX12_guard_5 : decode cX12_guard 5 = .ok (.ifCond .eq 25, 3) := by decide +kernel
theorem dX12_guard_8 : decode cX12_guard 8 = .ok (.aload_n 0, 1) := by decide +kernel
theorem dX12_guard_9 : decode cX12_guard 9 = .ok (.getfield 58, 3) := by decide +kernel
theorem dX12_guard_12 : decode cX12_guard 12 = .ok (.bipush 80, 2) := by decide +kernel
theorem dX12_guard_14 : decode cX12_guard 14 = .ok (.iload_n 1, 1) := by decide +kernel
theorem dX12_guard_15 : decode cX12_guard 15 = .ok (.iadd, 1) := by decide +kernel
theorem dX12_guard_16 : decode cX12_guard 16 = .ok (.iaload, 1) := by decide +kernel
theorem dX12_guard_17 : decode cX12_guard 17 = .ok (.iload_n 2, 1) := by decide +kernel
theorem dX12_guard_18 : decode cX12_guard 18 = .ok (.ifCond .eq 8, 3) := by decide +kernel
theorem dX12_guard_21 : decode cX12_guard 21 = .ok (.bipush 9, 2) := by decide +kernel
theorem dX12_guard_23 : decode cX12_guard 23 = .ok (.goto 4, 3) := by decide +kernel
theorem dX12_guard_26 : decode cX12_guard 26 = .ok (.iconst 0, 1) := by decide +kernel
theorem dX12_guard_27 : decode cX12_guard 27 = .ok (.if_icmp .ne 5, 3) := by decide +kernel
theorem dX12_guard_30 : decode cX12_guard 30 = .ok (.iconst (-1), 1) := by decide +kernel
theorem dX12_guard_31 : decode cX12_guard 31 = .ok (.ireturn, 1) := by decide +kernel
theorem dX12_guard_32 : decode cX12_guard 32 = .ok (.aload_n 0, 1) := by decide +kernel
theorem dX12_guard_33 : decode cX12_guard 33 = .ok (.invokevirtual 355, 3) := by decide +kernel
theorem dX12_guard_36 : decode cX12_guard 36 = .ok (.aload_n 0, 1) := by decide +kernel
theorem dX12_guard_37 : decode cX12_guard 37 = .ok (.getfield 58, 3) := by decide +kernel
theorem dX12_guard_40 : decode cX12_guard 40 = .ok (.bipush 80, 2) := by decide +kernel
theorem dX12_guard_42 : decode cX12_guard 42 = .ok (.iload_n 1, 1) := by decide +kernel
theorem dX12_guard_43 : decode cX12_guard 43 = .ok (.iadd, 1) := by decide +kernel
theorem dX12_guard_44 : decode cX12_guard 44 = .ok (.dup2, 1) := by decide +kernel
theorem dX12_guard_45 : decode cX12_guard 45 = .ok (.iaload, 1) := by decide +kernel
theorem dX12_guard_46 : decode cX12_guard 46 = .ok (.iload_n 2, 1) := by decide +kernel
theorem dX12_guard_47 : decode cX12_guard 47 = .ok (.ifCond .eq 7, 3) := by decide +kernel
theorem dX12_guard_50 : decode cX12_guard 50 = .ok (.iconst 1, 1) := by decide +kernel
theorem dX12_guard_51 : decode cX12_guard 51 = .ok (.goto 4, 3) := by decide +kernel
theorem dX12_guard_54 : decode cX12_guard 54 = .ok (.iconst (-1), 1) := by decide +kernel
theorem dX12_guard_55 : decode cX12_guard 55 = .ok (.iadd, 1) := by decide +kernel
theorem dX12_guard_56 : decode cX12_guard 56 = .ok (.iastore, 1) := by decide +kernel
theorem dX12_guard_57 : decode cX12_guard 57 = .ok (.aload_n 0, 1) := by decide +kernel
theorem dX12_guard_58 : decode cX12_guard 58 = .ok (.getfield 58, 3) := by decide +kernel
theorem dX12_guard_61 : decode cX12_guard 61 = .ok (.bipush 80, 2) := by decide +kernel
theorem dX12_guard_63 : decode cX12_guard 63 = .ok (.iload_n 1, 1) := by decide +kernel
theorem dX12_guard_64 : decode cX12_guard 64 = .ok (.iadd, 1) := by decide +kernel
theorem dX12_guard_65 : decode cX12_guard 65 = .ok (.iaload, 1) := by decide +kernel
theorem dX12_guard_66 : decode cX12_guard 66 = .ok (.ireturn, 1) := by decide +kernel
theorem dX12_draw_0 : decode cX12_draw 0 = .ok (.aload_n 0, 1) := by decide +kernel
theorem dX12_draw_1 : decode cX12_draw 1 = .ok (.aload_n 0, 1) := by decide +kernel
theorem dX12_draw_2 : decode cX12_draw 2 = .ok (.getfield 358, 3) := by decide +kernel
theorem dX12_draw_5 : decode cX12_draw 5 = .ok (.ldc2_w 362, 3) := by decide +kernel
theorem dX12_draw_8 : decode cX12_draw 8 = .ok (.lmul, 1) := by decide +kernel
theorem dX12_draw_9 : decode cX12_draw 9 = .ok (.ldc2_w 364, 3) := by decide +kernel
theorem dX12_draw_12 : decode cX12_draw 12 = .ok (.ladd, 1) := by decide +kernel
theorem dX12_draw_13 : decode cX12_draw 13 = .ok (.putfield 358, 3) := by decide +kernel
theorem dX12_draw_16 : decode cX12_draw 16 = .ok (.aload_n 0, 1) := by decide +kernel
theorem dX12_draw_17 : decode cX12_draw 17 = .ok (.getfield 358, 3) := by decide +kernel
theorem dX12_draw_20 : decode cX12_draw 20 = .ok (.bipush 33, 2) := by decide +kernel
theorem dX12_draw_22 : decode cX12_draw 22 = .ok (.lushr, 1) := by decide +kernel
theorem dX12_draw_23 : decode cX12_draw 23 = .ok (.iload_n 1, 1) := by decide +kernel
theorem dX12_draw_24 : decode cX12_draw 24 = .ok (.i2l, 1) := by decide +kernel
theorem dX12_draw_25 : decode cX12_draw 25 = .ok (.lrem, 1) := by decide +kernel
theorem dX12_draw_26 : decode cX12_draw 26 = .ok (.l2i, 1) := by decide +kernel
theorem dX12_draw_27 : decode cX12_draw 27 = .ok (.ireturn, 1) := by decide +kernel
theorem dX12_note_0 : decode cX12_note 0 = .ok (.aload_n 0, 1) := by decide +kernel
theorem dX12_note_1 : decode cX12_note 1 = .ok (.getfield 58, 3) := by decide +kernel
theorem dX12_note_4 : decode cX12_note 4 = .ok (.sipush 139, 3) := by decide +kernel
theorem dX12_note_7 : decode cX12_note 7 = .ok (.iaload, 1) := by decide +kernel
theorem dX12_note_8 : decode cX12_note 8 = .ok (.bipush 60, 2) := by decide +kernel
theorem dX12_note_10 : decode cX12_note 10 = .ok (.if_icmp .ne 52, 3) := by decide +kernel
theorem dX12_note_13 : decode cX12_note 13 = .ok (.iconst 3, 1) := by decide +kernel
theorem dX12_note_14 : decode cX12_note 14 = .ok (.istore_n 2, 1) := by decide +kernel
theorem dX12_note_15 : decode cX12_note 15 = .ok (.iload_n 2, 1) := by decide +kernel
theorem dX12_note_16 : decode cX12_note 16 = .ok (.sipush 180, 3) := by decide +kernel
theorem dX12_note_19 : decode cX12_note 19 = .ok (.if_icmp .ge 31, 3) := by decide +kernel
theorem dX12_note_22 : decode cX12_note 22 = .ok (.aload_n 0, 1) := by decide +kernel
theorem dX12_note_23 : decode cX12_note 23 = .ok (.getfield 58, 3) := by decide +kernel
theorem dX12_note_26 : decode cX12_note 26 = .ok (.sipush 140, 3) := by decide +kernel
theorem dX12_note_29 : decode cX12_note 29 = .ok (.iload_n 2, 1) := by decide +kernel
theorem dX12_note_30 : decode cX12_note 30 = .ok (.iadd, 1) := by decide +kernel
theorem dX12_note_31 : decode cX12_note 31 = .ok (.iconst 3, 1) := by decide +kernel
theorem dX12_note_32 : decode cX12_note 32 = .ok (.isub, 1) := by decide +kernel
theorem dX12_note_33 : decode cX12_note 33 = .ok (.aload_n 0, 1) := by decide +kernel
theorem dX12_note_34 : decode cX12_note 34 = .ok (.getfield 58, 3) := by decide +kernel
theorem dX12_note_37 : decode cX12_note 37 = .ok (.sipush 140, 3) := by decide +kernel
theorem dX12_note_40 : decode cX12_note 40 = .ok (.iload_n 2, 1) := by decide +kernel
theorem dX12_note_41 : decode cX12_note 41 = .ok (.iadd, 1) := by decide +kernel
theorem dX12_note_42 : decode cX12_note 42 = .ok (.iaload, 1) := by decide +kernel
theorem dX12_note_43 : decode cX12_note 43 = .ok (.iastore, 1) := by decide +kernel
theorem dX12_note_44 : decode cX12_note 44 = .ok (.iinc 2 1, 3) := by decide +kernel
theorem dX12_note_47 : decode cX12_note 47 = .ok (.goto (-32), 3) := by decide +kernel
theorem dX12_note_50 : decode cX12_note 50 = .ok (.aload_n 0, 1) := by decide +kernel
theorem dX12_note_51 : decode cX12_note 51 = .ok (.getfield 58, 3) := by decide +kernel
theorem dX12_note_54 : decode cX12_note 54 = .ok (.sipush 139, 3) := by decide +kernel
theorem dX12_note_57 : decode cX12_note 57 = .ok (.dup2, 1) := by decide +kernel
theorem dX12_note_58 : decode cX12_note 58 = .ok (.iaload, 1) := by decide +kernel
theorem dX12_note_59 : decode cX12_note 59 = .ok (.iconst 1, 1) := by decide +kernel
theorem dX12_note_60 : decode cX12_note 60 = .ok (.isub, 1) := by decide +kernel
theorem dX12_note_61 : decode cX12_note 61 = .ok (.iastore, 1) := by decide +kernel
theorem dX12_note_62 : decode cX12_note 62 = .ok (.sipush 140, 3) := by decide +kernel
theorem dX12_note_65 : decode cX12_note 65 = .ok (.iconst 3, 1) := by decide +kernel
theorem dX12_note_66 : decode cX12_note 66 = .ok (.aload_n 0, 1) := by decide +kernel
theorem dX12_note_67 : decode cX12_note 67 = .ok (.getfield 58, 3) := by decide +kernel
theorem dX12_note_70 : decode cX12_note 70 = .ok (.sipush 139, 3) := by decide +kernel
theorem dX12_note_73 : decode cX12_note 73 = .ok (.iaload, 1) := by decide +kernel
theorem dX12_note_74 : decode cX12_note 74 = .ok (.imul, 1) := by decide +kernel
theorem dX12_note_75 : decode cX12_note 75 = .ok (.iadd, 1) := by decide +kernel
theorem dX12_note_76 : decode cX12_note 76 = .ok (.istore_n 2, 1) := by decide +kernel
theorem dX12_note_77 : decode cX12_note 77 = .ok (.aload_n 0, 1) := by decide +kernel
theorem dX12_note_78 : decode cX12_note 78 = .ok (.getfield 58, 3) := by decide +kernel
theorem dX12_note_81 : decode cX12_note 81 = .ok (.iload_n 2, 1) := by decide +kernel
theorem dX12_note_82 : decode cX12_note 82 = .ok (.iload_n 1, 1) := by decide +kernel
theorem dX12_note_83 : decode cX12_note 83 = .ok (.iastore, 1) := by decide +kernel
theorem dX12_note_84 : decode cX12_note 84 = .ok (.aload_n 0, 1) := by decide +kernel
theorem dX12_note_85 : decode cX12_note 85 = .ok (.getfield 58, 3) := by decide +kernel
theorem dX12_note_88 : decode cX12_note 88 = .ok (.iload_n 2, 1) := by decide +kernel
theorem dX12_note_89 : decode cX12_note 89 = .ok (.iconst 1, 1) := by decide +kernel
theorem dX12_note_90 : decode cX12_note 90 = .ok (.iadd, 1) := by decide +kernel
theorem dX12_note_91 : decode cX12_note 91 = .ok (.aload_n 0, 1) := by decide +kernel
theorem dX12_note_92 : decode cX12_note 92 = .ok (.iload_n 1, 1) := by decide +kernel
theorem dX12_note_93 : decode cX12_note 93 = .ok (.iconst 0, 1) := by decide +kernel
theorem dX12_note_94 : decode cX12_note 94 = .ok (.invokevirtual 343, 3) := by decide +kernel
theorem dX12_note_97 : decode cX12_note 97 = .ok (.iastore, 1) := by decide +kernel
theorem dX12_note_98 : decode cX12_note 98 = .ok (.aload_n 0, 1) := by decide +kernel
theorem dX12_note_99 : decode cX12_note 99 = .ok (.getfield 58, 3) := by decide +kernel
theorem dX12_note_102 : decode cX12_note 102 = .ok (.iload_n 2, 1) := by decide +kernel
theorem dX12_note_103 : decode cX12_note 103 = .ok (.iconst 2, 1) := by decide +kernel
theorem dX12_note_104 : decode cX12_note 104 = .ok (.iadd, 1) := by decide +kernel
theorem dX12_note_105 : decode cX12_note 105 = .ok (.aload_n 0, 1) := by decide +kernel
theorem dX12_note_106 : decode cX12_note 106 = .ok (.getfield 58, 3) := by decide +kernel
theorem dX12_note_109 : decode cX12_note 109 = .ok (.sipush 137, 3) := by decide +kernel
theorem dX12_note_112 : decode cX12_note 112 = .ok (.iaload, 1) := by decide +kernel
theorem dX12_note_113 : decode cX12_note 113 = .ok (.iastore, 1) := by decide +kernel
theorem dX12_note_114 : decode cX12_note 114 = .ok (.aload_n 0, 1) := by decide +kernel
theorem dX12_note_115 : decode cX12_note 115 = .ok (.getfield 58, 3) := by decide +kernel
theorem dX12_note_118 : decode cX12_note 118 = .ok (.sipush 139, 3) := by decide +kernel
theorem dX12_note_121 : decode cX12_note 121 = .ok (.dup2, 1) := by decide +kernel
theorem dX12_note_122 : decode cX12_note 122 = .ok (.iaload, 1) := by decide +kernel
theorem dX12_note_123 : decode cX12_note 123 = .ok (.iconst 1, 1) := by decide +kernel
theorem dX12_note_124 : decode cX12_note 124 = .ok (.iadd, 1) := by decide +kernel
theorem dX12_note_125 : decode cX12_note 125 = .ok (.iastore, 1) := by decide +kernel
theorem dX12_note_126 : decode cX12_note 126 = .ok (.return_, 1) := by decide +kernel
theorem dX12_pass_0 : decode cX12_pass 0 = .ok (.iconst 0, 1) := by decide +kernel
theorem dX12_pass_1 : decode cX12_pass 1 = .ok (.istore_n 3, 1) := by decide +kernel
theorem dX12_pass_2 : decode cX12_pass 2 = .ok (.iload_n 3, 1) := by decide +kernel
theorem dX12_pass_3 : decode cX12_pass 3 = .ok (.bipush 8, 2) := by decide +kernel
theorem dX12_pass_5 : decode cX12_pass 5 = .ok (.if_icmp .ge 16, 3) := by decide +kernel
theorem dX12_pass_8 : decode cX12_pass 8 = .ok (.aload_n 0, 1) := by decide +kernel
theorem dX12_pass_9 : decode cX12_pass 9 = .ok (.getfield 74, 3) := by decide +kernel
theorem dX12_pass_12 : decode cX12_pass 12 = .ok (.iload_n 3, 1) := by decide +kernel
theorem dX12_pass_13 : decode cX12_pass 13 = .ok (.iconst 0, 1) := by decide +kernel
theorem dX12_pass_14 : decode cX12_pass 14 = .ok (.iastore, 1) := by decide +kernel
theorem dX12_pass_15 : decode cX12_pass 15 = .ok (.iinc 3 1, 3) := by decide +kernel
theorem dX12_pass_18 : decode cX12_pass 18 = .ok (.goto (-16), 3) := by decide +kernel
theorem dX12_pass_21 : decode cX12_pass 21 = .ok (.iconst 0, 1) := by decide +kernel
theorem dX12_pass_22 : decode cX12_pass 22 = .ok (.istore_n 3, 1) := by decide +kernel
theorem dX12_pass_23 : decode cX12_pass 23 = .ok (.iload_n 3, 1) := by decide +kernel
theorem dX12_pass_24 : decode cX12_pass 24 = .ok (.aload_n 0, 1) := by decide +kernel
theorem dX12_pass_25 : decode cX12_pass 25 = .ok (.getfield 58, 3) := by decide +kernel
theorem dX12_pass_28 : decode cX12_pass 28 = .ok (.sipush 136, 3) := by decide +kernel
theorem dX12_pass_31 : decode cX12_pass 31 = .ok (.iaload, 1) := by decide +kernel
theorem dX12_pass_32 : decode cX12_pass 32 = .ok (.if_icmp .ge 82, 3) := by decide +kernel
theorem dX12_pass_35 : decode cX12_pass 35 = .ok (.aload_n 0, 1) := by decide +kernel
theorem dX12_pass_36 : decode cX12_pass 36 = .ok (.iload_n 3, 1) := by decide +kernel
theorem dX12_pass_37 : decode cX12_pass 37 = .ok (.iconst 5, 1) := by decide +kernel
theorem dX12_pass_38 : decode cX12_pass 38 = .ok (.invokevirtual 343, 3) := by decide +kernel
theorem dX12_pass_41 : decode cX12_pass 41 = .ok (.aload_n 0, 1) := by decide +kernel
theorem dX12_pass_42 : decode cX12_pass 42 = .ok (.getfield 58, 3) := by decide +kernel
theorem dX12_pass_45 : decode cX12_pass 45 = .ok (.sipush 137, 3) := by decide +kernel
theorem dX12_pass_48 : decode cX12_pass 48 = .ok (.iaload, 1) := by decide +kernel
theorem dX12_pass_49 : decode cX12_pass 49 = .ok (.if_icmp .ne 59, 3) := by decide +kernel
theorem dX12_pass_52 : decode cX12_pass 52 = .ok (.aload_n 0, 1) := by decide +kernel
theorem dX12_pass_53 : decode cX12_pass 53 = .ok (.iload_n 3, 1) := by decide +kernel
theorem dX12_pass_54 : decode cX12_pass 54 = .ok (.iconst 0, 1) := by decide +kernel
theorem dX12_pass_55 : decode cX12_pass 55 = .ok (.iload_n 2, 1) := by decide +kernel
theorem dX12_pass_56 : decode cX12_pass 56 = .ok (.ifCond .eq 16, 3) := by decide +kernel
theorem dX12_pass_59 : decode cX12_pass 59 = .ok (.aload_n 0, 1) := by decide +kernel
theorem dX12_pass_60 : decode cX12_pass 60 = .ok (.aload_n 0, 1) := by decide +kernel
theorem dX12_pass_61 : decode cX12_pass 61 = .ok (.getfield 52, 3) := by decide +kernel
theorem dX12_pass_64 : decode cX12_pass 64 = .ok (.iconst 0, 1) := by decide +kernel
theorem dX12_pass_65 : decode cX12_pass 65 = .ok (.iaload, 1) := by decide +kernel
theorem dX12_pass_66 : decode cX12_pass 66 = .ok (.invokevirtual 366, 3) := by decide +kernel
theorem dX12_pass_69 : decode cX12_pass 69 = .ok (.goto 9, 3) := by decide +kernel
theorem dX12_pass_72 : decode cX12_pass 72 = .ok (.aload_n 0, 1) := by decide +kernel
theorem dX12_pass_73 : decode cX12_pass 73 = .ok (.iload_n 3, 1) := by decide +kernel
theorem dX12_pass_74 : decode cX12_pass 74 = .ok (.iconst 0, 1) := by decide +kernel
theorem dX12_pass_75 : decode cX12_pass 75 = .ok (.invokevirtual 343, 3) := by decide +kernel
theorem dX12_pass_78 : decode cX12_pass 78 = .ok (.invokevirtual 288, 3) := by decide +kernel
theorem dX12_pass_81 : decode cX12_pass 81 = .ok (.aload_n 0, 1) := by decide +kernel
theorem dX12_pass_82 : decode cX12_pass 82 = .ok (.iload_n 3, 1) := by decide +kernel
theorem dX12_pass_83 : decode cX12_pass 83 = .ok (.iconst 5, 1) := by decide +kernel
theorem dX12_pass_84 : decode cX12_pass 84 = .ok (.iconst (-1), 1) := by decide +kernel
theorem dX12_pass_85 : decode cX12_pass 85 = .ok (.invokevirtual 288, 3) := by decide +kernel
theorem dX12_pass_88 : decode cX12_pass 88 = .ok (.aload_n 0, 1) := by decide +kernel
theorem dX12_pass_89 : decode cX12_pass 89 = .ok (.getfield 74, 3) := by decide +kernel
theorem dX12_pass_92 : decode cX12_pass 92 = .ok (.aload_n 0, 1) := by decide +kernel
theorem dX12_pass_93 : decode cX12_pass 93 = .ok (.iload_n 3, 1) := by decide +kernel
theorem dX12_pass_94 : decode cX12_pass 94 = .ok (.iconst 0, 1) := by decide +kernel
theorem dX12_pass_95 : decode cX12_pass 95 = .ok (.invokevirtual 343, 3) := by decide +kernel
theorem dX12_pass_98 : decode cX12_pass 98 = .ok (.dup2, 1) := by decide +kernel
theorem dX12_pass_99 : decode cX12_pass 99 = .ok (.iaload, 1) := by decide +kernel
theorem dX12_pass_100 : decode cX12_pass 100 = .ok (.iconst 1, 1) := by decide +kernel
theorem dX12_pass_101 : decode cX12_pass 101 = .ok (.iadd, 1) := by decide +kernel
theorem dX12_pass_102 : decode cX12_pass 102 = .ok (.iastore, 1) := by decide +kernel
theorem dX12_pass_103 : decode cX12_pass 103 = .ok (.aload_n 0, 1) := by decide +kernel
theorem dX12_pass_104 : decode cX12_pass 104 = .ok (.iload_n 3, 1) := by decide +kernel
theorem dX12_pass_105 : decode cX12_pass 105 = .ok (.invokevirtual 369, 3) := by decide +kernel
theorem dX12_pass_108 : decode cX12_pass 108 = .ok (.iinc 3 1, 3) := by decide +kernel
theorem dX12_pass_111 : decode cX12_pass 111 = .ok (.goto (-88), 3) := by decide +kernel
theorem dX12_pass_114 : decode cX12_pass 114 = .ok (.iconst 0, 1) := by decide +kernel
theorem dX12_pass_115 : decode cX12_pass 115 = .ok (.istore_n 3, 1) := by decide +kernel
theorem dX12_pass_116 : decode cX12_pass 116 = .ok (.iload_n 3, 1) := by decide +kernel
theorem dX12_pass_117 : decode cX12_pass 117 = .ok (.aload_n 0, 1) := by decide +kernel
theorem dX12_pass_118 : decode cX12_pass 118 = .ok (.getfield 58, 3) := by decide +kernel
theorem dX12_pass_121 : decode cX12_pass 121 = .ok (.sipush 136, 3) := by decide +kernel
theorem dX12_pass_124 : decode cX12_pass 124 = .ok (.iaload, 1) := by decide +kernel
theorem dX12_pass_125 : decode cX12_pass 125 = .ok (.if_icmp .ge 127, 3) := by decide +kernel
theorem dX12_pass_128 : decode cX12_pass 128 = .ok (.iload_n 1, 1) := by decide +kernel
theorem dX12_pass_129 : decode cX12_pass 129 = .ok (.ifCond .ne 43, 3) := by decide +kernel
theorem dX12_pass_132 : decode cX12_pass 132 = .ok (.aload_n 0, 1) := by decide +kernel
theorem dX12_pass_133 : decode cX12_pass 133 = .ok (.iload_n 3, 1) := by decide +kernel
theorem dX12_pass_134 : decode cX12_pass 134 = .ok (.iconst 5, 1) := by decide +kernel
theorem dX12_pass_135 : decode cX12_pass 135 = .ok (.invokevirtual 343, 3) := by decide +kernel
theorem dX12_pass_138 : decode cX12_pass 138 = .ok (.iconst (-1), 1) := by decide +kernel
theorem dX12_pass_139 : decode cX12_pass 139 = .ok (.if_icmp .ne 33, 3) := by decide +kernel
theorem dX12_pass_142 : decode cX12_pass 142 = .ok (.aload_n 0, 1) := by decide +kernel
theorem dX12_pass_143 : decode cX12_pass 143 = .ok (.iload_n 3, 1) := by decide +kernel
theorem dX12_pass_144 : decode cX12_pass 144 = .ok (.iconst 3, 1) := by decide +kernel
theorem dX12_pass_145 : decode cX12_pass 145 = .ok (.invokevirtual 343, 3) := by decide +kernel
theorem dX12_pass_148 : decode cX12_pass 148 = .ok (.aload_n 0, 1) := by decide +kernel
theorem dX12_pass_149 : decode cX12_pass 149 = .ok (.getfield 58, 3) := by decide +kernel
theorem dX12_pass_152 : decode cX12_pass 152 = .ok (.sipush 137, 3) := by decide +kernel
theorem dX12_pass_155 : decode cX12_pass 155 = .ok (.iaload, 1) := by decide +kernel
theorem dX12_pass_156 : decode cX12_pass 156 = .ok (.if_icmp .gt 16, 3) := by decide +kernel
theorem dX12_pass_159 : decode cX12_pass 159 = .ok (.aload_n 0, 1) := by decide +kernel
theorem dX12_pass_160 : decode cX12_pass 160 = .ok (.iload_n 3, 1) := by decide +kernel
theorem dX12_pass_161 : decode cX12_pass 161 = .ok (.iconst 4, 1) := by decide +kernel
theorem dX12_pass_162 : decode cX12_pass 162 = .ok (.invokevirtual 343, 3) := by decide +kernel
theorem dX12_pass_165 : decode cX12_pass 165 = .ok (.ifCond .le 7, 3) := by decide +kernel
theorem dX12_pass_168 : decode cX12_pass 168 = .ok (.iconst 1, 1) := by decide +kernel
theorem dX12_pass_169 : decode cX12_pass 169 = .ok (.goto 4, 3) := by decide +kernel
theorem dX12_pass_172 : decode cX12_pass 172 = .ok (.iconst 0, 1) := by decide +kernel
theorem dX12_pass_173 : decode cX12_pass 173 = .ok (.istore 4, 2) := by decide +kernel
theorem dX12_pass_175 : decode cX12_pass 175 = .ok (.iload 4, 2) := by decide +kernel
theorem dX12_pass_177 : decode cX12_pass 177 = .ok (.ifCond .eq 69, 3) := by decide +kernel
theorem dX12_pass_180 : decode cX12_pass 180 = .ok (.aload_n 0, 1) := by decide +kernel
theorem dX12_pass_181 : decode cX12_pass 181 = .ok (.iload_n 3, 1) := by decide +kernel
theorem dX12_pass_182 : decode cX12_pass 182 = .ok (.invokevirtual 352, 3) := by decide +kernel
theorem dX12_pass_185 : decode cX12_pass 185 = .ok (.istore 5, 2) := by decide +kernel
theorem dX12_pass_187 : decode cX12_pass 187 = .ok (.aload_n 0, 1) := by decide +kernel
theorem dX12_pass_188 : decode cX12_pass 188 = .ok (.iload_n 3, 1) := by decide +kernel
theorem dX12_pass_189 : decode cX12_pass 189 = .ok (.iconst 5, 1) := by decide +kernel
theorem dX12_pass_190 : decode cX12_pass 190 = .ok (.aload_n 0, 1) := by decide +kernel
theorem dX12_pass_191 : decode cX12_pass 191 = .ok (.getfield 58, 3) := by decide +kernel
theorem dX12_pass_194 : decode cX12_pass 194 = .ok (.sipush 137, 3) := by decide +kernel
theorem dX12_pass_197 : decode cX12_pass 197 = .ok (.iaload, 1) := by decide +kernel
theorem dX12_pass_198 : decode cX12_pass 198 = .ok (.aload_n 0, 1) := by decide +kernel
theorem dX12_pass_199 : decode cX12_pass 199 = .ok (.aload_n 0, 1) := by decide +kernel
theorem dX12_pass_200 : decode cX12_pass 200 = .ok (.iload_n 3, 1) := by decide +kernel
theorem dX12_pass_201 : decode cX12_pass 201 = .ok (.iconst 0, 1) := by decide +kernel
theorem dX12_pass_202 : decode cX12_pass 202 = .ok (.invokevirtual 343, 3) := by decide +kernel
theorem dX12_pass_205 : decode cX12_pass 205 = .ok (.iload 5, 2) := by decide +kernel
theorem dX12_pass_207 : decode cX12_pass 207 = .ok (.invokevirtual 320, 3) := by decide +kernel
theorem dX12_pass_210 : decode cX12_pass 210 = .ok (.iadd, 1) := by decide +kernel
theorem dX12_pass_211 : decode cX12_pass 211 = .ok (.invokevirtual 288, 3) := by decide +kernel
theorem dX12_pass_214 : decode cX12_pass 214 = .ok (.aload_n 0, 1) := by decide +kernel
theorem dX12_pass_215 : decode cX12_pass 215 = .ok (.iload_n 3, 1) := by decide +kernel
theorem dX12_pass_216 : decode cX12_pass 216 = .ok (.iconst 0, 1) := by decide +kernel
theorem dX12_pass_217 : decode cX12_pass 217 = .ok (.aload_n 0, 1) := by decide +kernel
theorem dX12_pass_218 : decode cX12_pass 218 = .ok (.aload_n 0, 1) := by decide +kernel
theorem dX12_pass_219 : decode cX12_pass 219 = .ok (.iload_n 3, 1) := by decide +kernel
theorem dX12_pass_220 : decode cX12_pass 220 = .ok (.iconst 0, 1) := by decide +kernel
theorem dX12_pass_221 : decode cX12_pass 221 = .ok (.invokevirtual 343, 3) := by decide +kernel
theorem dX12_pass_224 : decode cX12_pass 224 = .ok (.iload 5, 2) := by decide +kernel
theorem dX12_pass_226 : decode cX12_pass 226 = .ok (.invokevirtual 323, 3) := by decide +kernel
theorem dX12_pass_229 : decode cX12_pass 229 = .ok (.invokevirtual 288, 3) := by decide +kernel
theorem dX12_pass_232 : decode cX12_pass 232 = .ok (.aload_n 0, 1) := by decide +kernel
theorem dX12_pass_233 : decode cX12_pass 233 = .ok (.iload_n 3, 1) := by decide +kernel
theorem dX12_pass_234 : decode cX12_pass 234 = .ok (.iconst 4, 1) := by decide +kernel
theorem dX12_pass_235 : decode cX12_pass 235 = .ok (.aload_n 0, 1) := by decide +kernel
theorem dX12_pass_236 : decode cX12_pass 236 = .ok (.iload_n 3, 1) := by decide +kernel
theorem dX12_pass_237 : decode cX12_pass 237 = .ok (.iconst 4, 1) := by decide +kernel
theorem dX12_pass_238 : decode cX12_pass 238 = .ok (.invokevirtual 343, 3) := by decide +kernel
theorem dX12_pass_241 : decode cX12_pass 241 = .ok (.iconst 1, 1) := by decide +kernel
theorem dX12_pass_242 : decode cX12_pass 242 = .ok (.isub, 1) := by decide +kernel
theorem dX12_pass_243 : decode cX12_pass 243 = .ok (.invokevirtual 288, 3) := by decide +kernel
theorem dX12_pass_246 : decode cX12_pass 246 = .ok (.iinc 3 1, 3) := by decide +kernel
theorem dX12_pass_249 : decode cX12_pass 249 = .ok (.goto (-133), 3) := by decide +kernel
theorem dX12_pass_252 : decode cX12_pass 252 = .ok (.iconst 0, 1) := by decide +kernel
theorem dX12_pass_253 : decode cX12_pass 253 = .ok (.istore_n 3, 1) := by decide +kernel
theorem dX12_pass_254 : decode cX12_pass 254 = .ok (.iload_n 3, 1) := by decide +kernel
theorem dX12_pass_255 : decode cX12_pass 255 = .ok (.bipush 8, 2) := by decide +kernel
theorem dX12_pass_257 : decode cX12_pass 257 = .ok (.if_icmp .ge 37, 3) := by decide +kernel
theorem dX12_pass_260 : decode cX12_pass 260 = .ok (.aload_n 0, 1) := by decide +kernel
theorem dX12_pass_261 : decode cX12_pass 261 = .ok (.getfield 58, 3) := by decide +kernel
theorem dX12_pass_264 : decode cX12_pass 264 = .ok (.sipush 138, 3) := by decide +kernel
theorem dX12_pass_267 : decode cX12_pass 267 = .ok (.dup2, 1) := by decide +kernel
theorem dX12_pass_268 : decode cX12_pass 268 = .ok (.iaload, 1) := by decide +kernel
theorem dX12_pass_269 : decode cX12_pass 269 = .ok (.aload_n 0, 1) := by decide +kernel
theorem dX12_pass_270 : decode cX12_pass 270 = .ok (.getfield 74, 3) := by decide +kernel
theorem dX12_pass_273 : decode cX12_pass 273 = .ok (.iload_n 3, 1) := by decide +kernel
theorem dX12_pass_274 : decode cX12_pass 274 = .ok (.iaload, 1) := by decide +kernel
theorem dX12_pass_275 : decode cX12_pass 275 = .ok (.aload_n 0, 1) := by decide +kernel
theorem dX12_pass_276 : decode cX12_pass 276 = .ok (.getfield 74, 3) := by decide +kernel
theorem dX12_pass_279 : decode cX12_pass 279 = .ok (.iload_n 3, 1) := by decide +kernel
theorem dX12_pass_280 : decode cX12_pass 280 = .ok (.iaload, 1) := by decide +kernel
theorem dX12_pass_281 : decode cX12_pass 281 = .ok (.iconst 1, 1) := by decide +kernel
theorem dX12_pass_282 : decode cX12_pass 282 = .ok (.isub, 1) := by decide +kernel
theorem dX12_pass_283 : decode cX12_pass 283 = .ok (.imul, 1) := by decide +kernel
theorem dX12_pass_284 : decode cX12_pass 284 = .ok (.iconst 2, 1) := by decide +kernel
theorem dX12_pass_285 : decode cX12_pass 285 = .ok (.idiv, 1) := by decide +kernel
theorem dX12_pass_286 : decode cX12_pass 286 = .ok (.iadd, 1) := by decide +kernel
theorem dX12_pass_287 : decode cX12_pass 287 = .ok (.iastore, 1) := by decide +kernel
theorem dX12_pass_288 : decode cX12_pass 288 = .ok (.iinc 3 1, 3) := by decide +kernel
theorem dX12_pass_291 : decode cX12_pass 291 = .ok (.goto (-37), 3) := by decide +kernel
theorem dX12_pass_294 : decode cX12_pass 294 = .ok (.aload_n 0, 1) := by decide +kernel
theorem dX12_pass_295 : decode cX12_pass 295 = .ok (.getfield 58, 3) := by decide +kernel
theorem dX12_pass_298 : decode cX12_pass 298 = .ok (.sipush 137, 3) := by decide +kernel
theorem dX12_pass_301 : decode cX12_pass 301 = .ok (.dup2, 1) := by decide +kernel
theorem dX12_pass_302 : decode cX12_pass 302 = .ok (.iaload, 1) := by decide +kernel
theorem dX12_pass_303 : decode cX12_pass 303 = .ok (.iconst 1, 1) := by decide +kernel
theorem dX12_pass_304 : decode cX12_pass 304 = .ok (.iadd, 1) := by decide +kernel
theorem dX12_pass_305 : decode cX12_pass 305 = .ok (.iastore, 1) := by decide +kernel
theorem dX12_pass_306 : decode cX12_pass 306 = .ok (.return_, 1) := by decide +kernel
theorem dX12_areHours_0 : decode cX12_areHours 0 = .ok (.aload_n 0, 1) := by decide +kernel
theorem dX12_areHours_1 : decode cX12_areHours 1 = .ok (.getfield 52, 3) := by decide +kernel
theorem dX12_areHours_4 : decode cX12_areHours 4 = .ok (.iconst 0, 1) := by decide +kernel
theorem dX12_areHours_5 : decode cX12_areHours 5 = .ok (.iaload, 1) := by decide +kernel
theorem dX12_areHours_6 : decode cX12_areHours 6 = .ok (.ifCond .le 34, 3) := by decide +kernel
theorem dX12_areHours_9 : decode cX12_areHours 9 = .ok (.iload_n 1, 1) := by decide +kernel
theorem dX12_areHours_10 : decode cX12_areHours 10 = .ok (.iconst 1, 1) := by decide +kernel
theorem dX12_areHours_11 : decode cX12_areHours 11 = .ok (.sipush 200, 3) := by decide +kernel
theorem dX12_areHours_14 : decode cX12_areHours 14 = .ok (.invokestatic 238, 3) := by decide +kernel
theorem dX12_areHours_17 : decode cX12_areHours 17 = .ok (.ifCond .eq 23, 3) := by decide +kernel
theorem dX12_areHours_20 : decode cX12_areHours 20 = .ok (.aload_n 0, 1) := by decide +kernel
theorem dX12_areHours_21 : decode cX12_areHours 21 = .ok (.getfield 58, 3) := by decide +kernel
theorem dX12_areHours_24 : decode cX12_areHours 24 = .ok (.sipush 137, 3) := by decide +kernel
theorem dX12_areHours_27 : decode cX12_areHours 27 = .ok (.iaload, 1) := by decide +kernel
theorem dX12_areHours_28 : decode cX12_areHours 28 = .ok (.iload_n 1, 1) := by decide +kernel
theorem dX12_areHours_29 : decode cX12_areHours 29 = .ok (.iadd, 1) := by decide +kernel
theorem dX12_areHours_30 : decode cX12_areHours 30 = .ok (.sipush 9999, 3) := by decide +kernel
theorem dX12_areHours_33 : decode cX12_areHours 33 = .ok (.if_icmp .gt 7, 3) := by decide +kernel
theorem dX12_areHours_36 : decode cX12_areHours 36 = .ok (.iconst 1, 1) := by decide +kernel
theorem dX12_areHours_37 : decode cX12_areHours 37 = .ok (.goto 4, 3) := by decide +kernel
theorem dX12_areHours_40 : decode cX12_areHours 40 = .ok (.iconst 0, 1) := by decide +kernel
theorem dX12_areHours_41 : decode cX12_areHours 41 = .ok (.ireturn, 1) := by decide +kernel
theorem dX12_go_0 : decode cX12_go 0 = .ok (.aload_n 0, 1) := by decide +kernel
theorem dX12_go_1 : decode cX12_go 1 = .ok (.iload_n 1, 1) := by decide +kernel
theorem dX12_go_2 : decode cX12_go 2 = .ok (.invokevirtual 372, 3) := by decide +kernel
theorem dX12_go_5 : decode cX12_go 5 = .ok (.ifCond .ne 5, 3) := by decide +kernel
theorem dX12_go_8 : decode cX12_go 8 = .ok (.iconst (-1), 1) := by decide +kernel
theorem dX12_go_9 : decode cX12_go 9 = .ok (.ireturn, 1) := by decide +kernel
theorem dX12_go_10 : decode cX12_go 10 = .ok (.iconst 0, 1) := by decide +kernel
theorem dX12_go_11 : decode cX12_go 11 = .ok (.istore_n 2, 1) := by decide +kernel
theorem dX12_go_12 : decode cX12_go 12 = .ok (.iload_n 2, 1) := by decide +kernel
theorem dX12_go_13 : decode cX12_go 13 = .ok (.iload_n 1, 1) := by decide +kernel
theorem dX12_go_14 : decode cX12_go 14 = .ok (.if_icmp .ge 19, 3) := by decide +kernel
theorem dX12_go_17 : decode cX12_go 17 = .ok (.aload_n 0, 1) := by decide +kernel
theorem dX12_go_18 : decode cX12_go 18 = .ok (.invokevirtual 355, 3) := by decide +kernel
theorem dX12_go_21 : decode cX12_go 21 = .ok (.aload_n 0, 1) := by decide +kernel
theorem dX12_go_22 : decode cX12_go 22 = .ok (.iconst 0, 1) := by decide +kernel
theorem dX12_go_23 : decode cX12_go 23 = .ok (.iconst 0, 1) := by decide +kernel
theorem dX12_go_24 : decode cX12_go 24 = .ok (.invokevirtual 375, 3) := by decide +kernel
theorem dX12_go_27 : decode cX12_go 27 = .ok (.iinc 2 1, 3) := by decide +kernel
theorem dX12_go_30 : decode cX12_go 30 = .ok (.goto (-18), 3) := by decide +kernel
theorem dX12_go_33 : decode cX12_go 33 = .ok (.aload_n 0, 1) := by decide +kernel
theorem dX12_go_34 : decode cX12_go 34 = .ok (.getfield 58, 3) := by decide +kernel
theorem dX12_go_37 : decode cX12_go 37 = .ok (.sipush 137, 3) := by decide +kernel
theorem dX12_go_40 : decode cX12_go 40 = .ok (.iaload, 1) := by decide +kernel
theorem dX12_go_41 : decode cX12_go 41 = .ok (.ireturn, 1) := by decide +kernel
theorem dX12_fogs_0 : decode cX12_fogs 0 = .ok (.iload_n 1, 1) := by decide +kernel
theorem dX12_fogs_1 : decode cX12_fogs 1 = .ok (.iconst 0, 1) := by decide +kernel
theorem dX12_fogs_2 : decode cX12_fogs 2 = .ok (.bipush 99, 2) := by decide +kernel
theorem dX12_fogs_4 : decode cX12_fogs 4 = .ok (.invokestatic 238, 3) := by decide +kernel
theorem dX12_fogs_7 : decode cX12_fogs 7 = .ok (.ifCond .eq 11, 3) := by decide +kernel
theorem dX12_fogs_10 : decode cX12_fogs 10 = .ok (.iload_n 1, 1) := by decide +kernel
theorem dX12_fogs_11 : decode cX12_fogs 11 = .ok (.aload_n 0, 1) := by decide +kernel
theorem dX12_fogs_12 : decode cX12_fogs 12 = .ok (.getfield 379, 3) := by decide +kernel
theorem dX12_fogs_15 : decode cX12_fogs 15 = .ok (.if_icmp .ne 5, 3) := by decide +kernel
theorem dX12_fogs_18 : decode cX12_fogs 18 = .ok (.iconst 0, 1) := by decide +kernel
theorem dX12_fogs_19 : decode cX12_fogs 19 = .ok (.ireturn, 1) := by decide +kernel
theorem dX12_fogs_20 : decode cX12_fogs 20 = .ok (.aload_n 0, 1) := by decide +kernel
theorem dX12_fogs_21 : decode cX12_fogs 21 = .ok (.iload_n 1, 1) := by decide +kernel
theorem dX12_fogs_22 : decode cX12_fogs 22 = .ok (.putfield 379, 3) := by decide +kernel
theorem dX12_fogs_25 : decode cX12_fogs 25 = .ok (.iconst 1, 1) := by decide +kernel
theorem dX12_fogs_26 : decode cX12_fogs 26 = .ok (.ireturn, 1) := by decide +kernel
theorem dX12_years_0 : decode cX12_years 0 = .ok (.aload_n 0, 1) := by decide +kernel
theorem dX12_years_1 : decode cX12_years 1 = .ok (.iload_n 1, 1) := by decide +kernel
theorem dX12_years_2 : decode cX12_years 2 = .ok (.invokevirtual 372, 3) := by decide +kernel
theorem dX12_years_5 : decode cX12_years 5 = .ok (.ifCond .ne 5, 3) := by decide +kernel
theorem dX12_years_8 : decode cX12_years 8 = .ok (.iconst (-1), 1) := by decide +kernel
theorem dX12_years_9 : decode cX12_years 9 = .ok (.ireturn, 1) := by decide +kernel
theorem dX12_years_10 : decode cX12_years 10 = .ok (.aload_n 0, 1) := by decide +kernel
theorem dX12_years_11 : decode cX12_years 11 = .ok (.lload_n 2, 1) := by decide +kernel
theorem dX12_years_12 : decode cX12_years 12 = .ok (.putfield 358, 3) := by decide +kernel
theorem dX12_years_15 : decode cX12_years 15 = .ok (.iconst 0, 1) := by decide +kernel
theorem dX12_years_16 : decode cX12_years 16 = .ok (.istore 4, 2) := by decide +kernel
theorem dX12_years_18 : decode cX12_years 18 = .ok (.iload 4, 2) := by decide +kernel
theorem dX12_years_20 : decode cX12_years 20 = .ok (.iload_n 1, 1) := by decide +kernel
theorem dX12_years_21 : decode cX12_years 21 = .ok (.if_icmp .ge 60, 3) := by decide +kernel
theorem dX12_years_24 : decode cX12_years 24 = .ok (.aload_n 0, 1) := by decide +kernel
theorem dX12_years_25 : decode cX12_years 25 = .ok (.invokevirtual 355, 3) := by decide +kernel
theorem dX12_years_28 : decode cX12_years 28 = .ok (.aload_n 0, 1) := by decide +kernel
theorem dX12_years_29 : decode cX12_years 29 = .ok (.bipush 100, 2) := by decide +kernel
theorem dX12_years_31 : decode cX12_years 31 = .ok (.invokevirtual 366, 3) := by decide +kernel
theorem dX12_years_34 : decode cX12_years 34 = .ok (.aload_n 0, 1) := by decide +kernel
theorem dX12_years_35 : decode cX12_years 35 = .ok (.getfield 379, 3) := by decide +kernel
theorem dX12_years_38 : decode cX12_years 38 = .ok (.if_icmp .ge 7, 3) := by decide +kernel
theorem dX12_years_41 : decode cX12_years 41 = .ok (.iconst 1, 1) := by decide +kernel
theorem dX12_years_42 : decode cX12_years 42 = .ok (.goto 4, 3) := by decide +kernel
theorem dX12_years_45 : decode cX12_years 45 = .ok (.iconst 0, 1) := by decide +kernel
theorem dX12_years_46 : decode cX12_years 46 = .ok (.istore 5, 2) := by decide +kernel
theorem dX12_years_48 : decode cX12_years 48 = .ok (.aload_n 0, 1) := by decide +kernel
theorem dX12_years_49 : decode cX12_years 49 = .ok (.iload 5, 2) := by decide +kernel
theorem dX12_years_51 : decode cX12_years 51 = .ok (.aload_n 0, 1) := by decide +kernel
theorem dX12_years_52 : decode cX12_years 52 = .ok (.getfield 58, 3) := by decide +kernel
theorem dX12_years_55 : decode cX12_years 55 = .ok (.sipush 137, 3) := by decide +kernel
theorem dX12_years_58 : decode cX12_years 58 = .ok (.iaload, 1) := by decide +kernel
theorem dX12_years_59 : decode cX12_years 59 = .ok (.bipush 24, 2) := by decide +kernel
theorem dX12_years_61 : decode cX12_years 61 = .ok (.irem, 1) := by decide +kernel
theorem dX12_years_62 : decode cX12_years 62 = .ok (.bipush 6, 2) := by decide +kernel
theorem dX12_years_64 : decode cX12_years 64 = .ok (.if_icmp .ne 7, 3) := by decide +kernel
theorem dX12_years_67 : decode cX12_years 67 = .ok (.iconst 1, 1) := by decide +kernel
theorem dX12_years_68 : decode cX12_years 68 = .ok (.goto 4, 3) := by decide +kernel
theorem dX12_years_71 : decode cX12_years 71 = .ok (.iconst 0, 1) := by decide +kernel
theorem dX12_years_72 : decode cX12_years 72 = .ok (.invokevirtual 375, 3) := by decide +kernel
theorem dX12_years_75 : decode cX12_years 75 = .ok (.iinc 4 1, 3) := by decide +kernel
theorem dX12_years_78 : decode cX12_years 78 = .ok (.goto (-60), 3) := by decide +kernel
theorem dX12_years_81 : decode cX12_years 81 = .ok (.aload_n 0, 1) := by decide +kernel
theorem dX12_years_82 : decode cX12_years 82 = .ok (.getfield 58, 3) := by decide +kernel
theorem dX12_years_85 : decode cX12_years 85 = .ok (.sipush 137, 3) := by decide +kernel
theorem dX12_years_88 : decode cX12_years 88 = .ok (.iaload, 1) := by decide +kernel
theorem dX12_years_89 : decode cX12_years 89 = .ok (.ireturn, 1) := by decide +kernel
theorem dX12_undo_0 : decode cX12_undo 0 = .ok (.aload_n 0, 1) := by decide +kernel
theorem dX12_undo_1 : decode cX12_undo 1 = .ok (.getfield 304, 3) := by decide +kernel
theorem dX12_undo_4 : decode cX12_undo 4 = .ok (.ifCond .ne 5, 3) := by decide +kernel
theorem dX12_undo_7 : decode cX12_undo 7 = .ok (.iconst (-1), 1) := by decide +kernel
theorem dX12_undo_8 : decode cX12_undo 8 = .ok (.ireturn, 1) := by decide +kernel
theorem dX12_undo_9 : decode cX12_undo 9 = .ok (.aload_n 0, 1) := by decide +kernel
theorem dX12_undo_10 : decode cX12_undo 10 = .ok (.dup, 1) := by decide +kernel
theorem dX12_undo_11 : decode cX12_undo 11 = .ok (.getfield 304, 3) := by decide +kernel
theorem dX12_undo_14 : decode cX12_undo 14 = .ok (.iconst 1, 1) := by decide +kernel
theorem dX12_undo_15 : decode cX12_undo 15 = .ok (.isub, 1) := by decide +kernel
theorem dX12_undo_16 : decode cX12_undo 16 = .ok (.putfield 304, 3) := by decide +kernel
theorem dX12_undo_19 : decode cX12_undo 19 = .ok (.iconst 0, 1) := by decide +kernel
theorem dX12_undo_20 : decode cX12_undo 20 = .ok (.istore_n 1, 1) := by decide +kernel
theorem dX12_undo_21 : decode cX12_undo 21 = .ok (.iload_n 1, 1) := by decide +kernel
theorem dX12_undo_22 : decode cX12_undo 22 = .ok (.sipush 320, 3) := by decide +kernel
theorem dX12_undo_25 : decode cX12_undo 25 = .ok (.if_icmp .ge 30, 3) := by decide +kernel
theorem dX12_undo_28 : decode cX12_undo 28 = .ok (.aload_n 0, 1) := by decide +kernel
theorem dX12_undo_29 : decode cX12_undo 29 = .ok (.getfield 58, 3) := by decide +kernel
theorem dX12_undo_32 : decode cX12_undo 32 = .ok (.iload_n 1, 1) := by decide +kernel
theorem dX12_undo_33 : decode cX12_undo 33 = .ok (.aload_n 0, 1) := by decide +kernel
theorem dX12_undo_34 : decode cX12_undo 34 = .ok (.getfield 71, 3) := by decide +kernel
theorem dX12_undo_37 : decode cX12_undo 37 = .ok (.sipush 320, 3) := by decide +kernel
theorem dX12_undo_40 : decode cX12_undo 40 = .ok (.aload_n 0, 1) := by decide +kernel
theorem dX12_undo_41 : decode cX12_undo 41 = .ok (.getfield 304, 3) := by decide +kernel
theorem dX12_undo_44 : decode cX12_undo 44 = .ok (.imul, 1) := by decide +kernel
theorem dX12_undo_45 : decode cX12_undo 45 = .ok (.iload_n 1, 1) := by decide +kernel
theorem dX12_undo_46 : decode cX12_undo 46 = .ok (.iadd, 1) := by decide +kernel
theorem dX12_undo_47 : decode cX12_undo 47 = .ok (.iaload, 1) := by decide +kernel
theorem dX12_undo_48 : decode cX12_undo 48 = .ok (.iastore, 1) := by decide +kernel
theorem dX12_undo_49 : decode cX12_undo 49 = .ok (.iinc 1 1, 3) := by decide +kernel
theorem dX12_undo_52 : decode cX12_undo 52 = .ok (.goto (-31), 3) := by decide +kernel
theorem dX12_undo_55 : decode cX12_undo 55 = .ok (.aload_n 0, 1) := by decide +kernel
theorem dX12_undo_56 : decode cX12_undo 56 = .ok (.getfield 304, 3) := by decide +kernel
theorem dX12_undo_59 : decode cX12_undo 59 = .ok (.ireturn, 1) := by decide +kernel
theorem dX12_log_0 : decode cX12_log 0 = .ok (.iload_n 1, 1) := by decide +kernel
theorem dX12_log_1 : decode cX12_log 1 = .ok (.iconst 0, 1) := by decide +kernel
theorem dX12_log_2 : decode cX12_log 2 = .ok (.aload_n 0, 1) := by decide +kernel
theorem dX12_log_3 : decode cX12_log 3 = .ok (.getfield 58, 3) := by decide +kernel
theorem dX12_log_6 : decode cX12_log 6 = .ok (.sipush 139, 3) := by decide +kernel
theorem dX12_log_9 : decode cX12_log 9 = .ok (.iaload, 1) := by decide +kernel
theorem dX12_log_10 : decode cX12_log 10 = .ok (.iconst 1, 1) := by decide +kernel
theorem dX12_log_11 : decode cX12_log 11 = .ok (.isub, 1) := by decide +kernel
theorem dX12_log_12 : decode cX12_log 12 = .ok (.invokestatic 238, 3) := by decide +kernel
theorem dX12_log_15 : decode cX12_log 15 = .ok (.ifCond .eq 40, 3) := by decide +kernel
theorem dX12_log_18 : decode cX12_log 18 = .ok (.iload_n 2, 1) := by decide +kernel
theorem dX12_log_19 : decode cX12_log 19 = .ok (.iconst 0, 1) := by decide +kernel
theorem dX12_log_20 : decode cX12_log 20 = .ok (.iconst 2, 1) := by decide +kernel
theorem dX12_log_21 : decode cX12_log 21 = .ok (.invokestatic 238, 3) := by decide +kernel
theorem dX12_log_24 : decode cX12_log 24 = .ok (.ifCond .eq 31, 3) := by decide +kernel
theorem dX12_log_27 : decode cX12_log 27 = .ok (.aload_n 0, 1) := by decide +kernel
theorem dX12_log_28 : decode cX12_log 28 = .ok (.getfield 58, 3) := by decide +kernel
theorem dX12_log_31 : decode cX12_log 31 = .ok (.sipush 140, 3) := by decide +kernel
theorem dX12_log_34 : decode cX12_log 34 = .ok (.iconst 3, 1) := by decide +kernel
theorem dX12_log_35 : decode cX12_log 35 = .ok (.aload_n 0, 1) := by decide +kernel
theorem dX12_log_36 : decode cX12_log 36 = .ok (.getfield 58, 3) := by decide +kernel
theorem dX12_log_39 : decode cX12_log 39 = .ok (.sipush 139, 3) := by decide +kernel
theorem dX12_log_42 : decode cX12_log 42 = .ok (.iaload, 1) := by decide +kernel
theorem dX12_log_43 : decode cX12_log 43 = .ok (.iconst 1, 1) := by decide +kernel
theorem dX12_log_44 : decode cX12_log 44 = .ok (.isub, 1) := by decide +kernel
theorem dX12_log_45 : decode cX12_log 45 = .ok (.iload_n 1, 1) := by decide +kernel
theorem dX12_log_46 : decode cX12_log 46 = .ok (.isub, 1) := by decide +kernel
theorem dX12_log_47 : decode cX12_log 47 = .ok (.imul, 1) := by decide +kernel
theorem dX12_log_48 : decode cX12_log 48 = .ok (.iadd, 1) := by decide +kernel
theorem dX12_log_49 : decode cX12_log 49 = .ok (.iload_n 2, 1) := by decide +kernel
theorem dX12_log_50 : decode cX12_log 50 = .ok (.iadd, 1) := by decide +kernel
theorem dX12_log_51 : decode cX12_log 51 = .ok (.iaload, 1) := by decide +kernel
theorem dX12_log_52 : decode cX12_log 52 = .ok (.goto 4, 3) := by decide +kernel
theorem dX12_log_55 : decode cX12_log 55 = .ok (.iconst (-1), 1) := by decide +kernel
theorem dX12_log_56 : decode cX12_log 56 = .ok (.ireturn, 1) := by decide +kernel
theorem dX12_through_0 : decode cX12_through 0 = .ok (.iload_n 1, 1) := by decide +kernel
theorem dX12_through_1 : decode cX12_through 1 = .ok (.istore 4, 2) := by decide +kernel
theorem dX12_through_3 : decode cX12_through 3 = .ok (.iconst 0, 1) := by decide +kernel
theorem dX12_through_4 : decode cX12_through 4 = .ok (.istore 5, 2) := by decide +kernel
theorem dX12_through_6 : decode cX12_through 6 = .ok (.iload 5, 2) := by decide +kernel
theorem dX12_through_8 : decode cX12_through 8 = .ok (.iload_n 3, 1) := by decide +kernel
theorem dX12_through_9 : decode cX12_through 9 = .ok (.if_icmp .ge 18, 3) := by decide +kernel
theorem dX12_through_12 : decode cX12_through 12 = .ok (.aload_n 0, 1) := by decide +kernel
theorem dX12_through_13 : decode cX12_through 13 = .ok (.iload 4, 2) := by decide +kernel
theorem dX12_through_15 : decode cX12_through 15 = .ok (.iload_n 2, 1) := by decide +kernel
theorem dX12_through_16 : decode cX12_through 16 = .ok (.invokevirtual 323, 3) := by decide +kernel
theorem dX12_through_19 : decode cX12_through 19 = .ok (.istore 4, 2) := by decide +kernel
theorem dX12_through_21 : decode cX12_through 21 = .ok (.iinc 5 1, 3) := by decide +kernel
theorem dX12_through_24 : decode cX12_through 24 = .ok (.goto (-18), 3) := by decide +kernel
theorem dX12_through_27 : decode cX12_through 27 = .ok (.iload 4, 2) := by decide +kernel
theorem dX12_through_29 : decode cX12_through 29 = .ok (.ireturn, 1) := by decide +kernel
theorem dX12_comes_0 : decode cX12_comes 0 = .ok (.aload_n 0, 1) := by decide +kernel
theorem dX12_comes_1 : decode cX12_comes 1 = .ok (.iload_n 1, 1) := by decide +kernel
theorem dX12_comes_2 : decode cX12_comes 2 = .ok (.invokevirtual 333, 3) := by decide +kernel
theorem dX12_comes_5 : decode cX12_comes 5 = .ok (.ifCond .eq 31, 3) := by decide +kernel
theorem dX12_comes_8 : decode cX12_comes 8 = .ok (.aload_n 0, 1) := by decide +kernel
theorem dX12_comes_9 : decode cX12_comes 9 = .ok (.iload_n 2, 1) := by decide +kernel
theorem dX12_comes_10 : decode cX12_comes 10 = .ok (.invokevirtual 336, 3) := by decide +kernel
theorem dX12_comes_13 : decode cX12_comes 13 = .ok (.ifCond .eq 23, 3) := by decide +kernel
theorem dX12_comes_16 : decode cX12_comes 16 = .ok (.iload_n 3, 1) := by decide +kernel
theorem dX12_comes_17 : decode cX12_comes 17 = .ok (.iconst 0, 1) := by decide +kernel
theorem dX12_comes_18 : decode cX12_comes 18 = .ok (.bipush 99, 2) := by decide +kernel
theorem dX12_comes_20 : decode cX12_comes 20 = .ok (.invokestatic 238, 3) := by decide +kernel
theorem dX12_comes_23 : decode cX12_comes 23 = .ok (.ifCond .eq 13, 3) := by decide +kernel
theorem dX12_comes_26 : decode cX12_comes 26 = .ok (.aload_n 0, 1) := by decide +kernel
theorem dX12_comes_27 : decode cX12_comes 27 = .ok (.iload_n 1, 1) := by decide +kernel
theorem dX12_comes_28 : decode cX12_comes 28 = .ok (.iload_n 2, 1) := by decide +kernel
theorem dX12_comes_29 : decode cX12_comes 29 = .ok (.iload_n 3, 1) := by decide +kernel
theorem dX12_comes_30 : decode cX12_comes 30 = .ok (.invokevirtual 382, 3) := by decide +kernel
theorem dX12_comes_33 : decode cX12_comes 33 = .ok (.goto 4, 3) := by decide +kernel
theorem dX12_comes_36 : decode cX12_comes 36 = .ok (.iconst (-1), 1) := by decide +kernel
theorem dX12_comes_37 : decode cX12_comes 37 = .ok (.ireturn, 1) := by decide +kernel
theorem dX12_round_0 : decode cX12_round 0 = .ok (.aload_n 0, 1) := by decide +kernel
theorem dX12_round_1 : decode cX12_round 1 = .ok (.iload_n 1, 1) := by decide +kernel
theorem dX12_round_2 : decode cX12_round 2 = .ok (.invokevirtual 333, 3) := by decide +kernel
theorem dX12_round_5 : decode cX12_round 5 = .ok (.ifCond .eq 20, 3) := by decide +kernel
theorem dX12_round_8 : decode cX12_round 8 = .ok (.aload_n 0, 1) := by decide +kernel
theorem dX12_round_9 : decode cX12_round 9 = .ok (.iload_n 2, 1) := by decide +kernel
theorem dX12_round_10 : decode cX12_round 10 = .ok (.invokevirtual 336, 3) := by decide +kernel
theorem dX12_round_13 : decode cX12_round 13 = .ok (.ifCond .eq 12, 3) := by decide +kernel
theorem dX12_round_16 : decode cX12_round 16 = .ok (.iload_n 3, 1) := by decide +kernel
theorem dX12_round_17 : decode cX12_round 17 = .ok (.iconst 0, 1) := by decide +kernel
theorem dX12_round_18 : decode cX12_round 18 = .ok (.iconst 1, 1) := by decide +kernel
theorem dX12_round_19 : decode cX12_round 19 = .ok (.invokestatic 238, 3) := by decide +kernel
theorem dX12_round_22 : decode cX12_round 22 = .ok (.ifCond .ne 5, 3) := by decide +kernel
theorem dX12_round_25 : decode cX12_round 25 = .ok (.iconst (-1), 1) := by decide +kernel
theorem dX12_round_26 : decode cX12_round 26 = .ok (.ireturn, 1) := by decide +kernel
theorem dX12_round_27 : decode cX12_round 27 = .ok (.iconst 0, 1) := by decide +kernel
theorem dX12_round_28 : decode cX12_round 28 = .ok (.istore 4, 2) := by decide +kernel
theorem dX12_round_30 : decode cX12_round 30 = .ok (.iconst 0, 1) := by decide +kernel
theorem dX12_round_31 : decode cX12_round 31 = .ok (.istore 5, 2) := by decide +kernel
theorem dX12_round_33 : decode cX12_round 33 = .ok (.iload_n 1, 1) := by decide +kernel
theorem dX12_round_34 : decode cX12_round 34 = .ok (.istore 6, 2) := by decide +kernel
theorem dX12_round_36 : decode cX12_round 36 = .ok (.iload 4, 2) := by decide +kernel
theorem dX12_round_38 : decode cX12_round 38 = .ok (.iload 6, 2) := by decide +kernel
theorem dX12_round_40 : decode cX12_round 40 = .ok (.invokestatic 249, 3) := by decide +kernel
theorem dX12_round_43 : decode cX12_round 43 = .ok (.ifCond .ne 27, 3) := by decide +kernel
theorem dX12_round_46 : decode cX12_round 46 = .ok (.iload 4, 2) := by decide +kernel
theorem dX12_round_48 : decode cX12_round 48 = .ok (.iconst 1, 1) := by decide +kernel
theorem dX12_round_49 : decode cX12_round 49 = .ok (.iload 6, 2) := by decide +kernel
theorem dX12_round_51 : decode cX12_round 51 = .ok (.ishl, 1) := by decide +kernel
theorem dX12_round_52 : decode cX12_round 52 = .ok (.ior, 1) := by decide +kernel
theorem dX12_round_53 : decode cX12_round 53 = .ok (.istore 4, 2) := by decide +kernel
theorem dX12_round_55 : decode cX12_round 55 = .ok (.aload_n 0, 1) := by decide +kernel
theorem dX12_round_56 : decode cX12_round 56 = .ok (.iload 6, 2) := by decide +kernel
theorem dX12_round_58 : decode cX12_round 58 = .ok (.iload_n 2, 1) := by decide +kernel
theorem dX12_round_59 : decode cX12_round 59 = .ok (.invokevirtual 323, 3) := by decide +kernel
theorem dX12_round_62 : decode cX12_round 62 = .ok (.istore 6, 2) := by decide +kernel
theorem dX12_round_64 : decode cX12_round 64 = .ok (.iinc 5 1, 3) := by decide +kernel
theorem dX12_round_67 : decode cX12_round 67 = .ok (.goto (-31), 3) := by decide +kernel
theorem dX12_round_70 : decode cX12_round 70 = .ok (.iconst 0, 1) := by decide +kernel
theorem dX12_round_71 : decode cX12_round 71 = .ok (.istore 7, 2) := by decide +kernel
theorem dX12_round_73 : decode cX12_round 73 = .ok (.aload_n 0, 1) := by decide +kernel
theorem dX12_round_74 : decode cX12_round 74 = .ok (.iload_n 1, 1) := by decide +kernel
theorem dX12_round_75 : decode cX12_round 75 = .ok (.iload_n 2, 1) := by decide +kernel
theorem dX12_round_76 : decode cX12_round 76 = .ok (.iload 7, 2) := by decide +kernel
theorem dX12_round_78 : decode cX12_round 78 = .ok (.invokevirtual 382, 3) := by decide +kernel
theorem dX12_round_81 : decode cX12_round 81 = .ok (.iload 6, 2) := by decide +kernel
theorem dX12_round_83 : decode cX12_round 83 = .ok (.if_icmp .eq 9, 3) := by decide +kernel
theorem dX12_round_86 : decode cX12_round 86 = .ok (.iinc 7 1, 3) := by decide +kernel
theorem dX12_round_89 : decode cX12_round 89 = .ok (.goto (-16), 3) := by decide +kernel
theorem dX12_round_92 : decode cX12_round 92 = .ok (.iload_n 3, 1) := by decide +kernel
theorem dX12_round_93 : decode cX12_round 93 = .ok (.ifCond .ne 8, 3) := by decide +kernel
theorem dX12_round_96 : decode cX12_round 96 = .ok (.iload 7, 2) := by decide +kernel
theorem dX12_round_98 : decode cX12_round 98 = .ok (.goto 8, 3) := by decide +kernel
theorem dX12_round_101 : decode cX12_round 101 = .ok (.iload 5, 2) := by decide +kernel
theorem dX12_round_103 : decode cX12_round 103 = .ok (.iload 7, 2) := by decide +kernel
theorem dX12_round_105 : decode cX12_round 105 = .ok (.isub, 1) := by decide +kernel
theorem dX12_round_106 : decode cX12_round 106 = .ok (.ireturn, 1) := by decide +kernel
theorem dX12_everyColour_0 : decode cX12_everyColour 0 = .ok (.iconst 1, 1) := by decide +kernel
theorem dX12_everyColour_1 : decode cX12_everyColour 1 = .ok (.aload_n 0, 1) := by decide +kernel
theorem dX12_everyColour_2 : decode cX12_everyColour 2 = .ok (.getfield 52, 3) := by decide +kernel
theorem dX12_everyColour_5 : decode cX12_everyColour 5 = .ok (.iconst 1, 1) := by decide +kernel
theorem dX12_everyColour_6 : decode cX12_everyColour 6 = .ok (.iaload, 1) := by decide +kernel
theorem dX12_everyColour_7 : decode cX12_everyColour 7 = .ok (.ishl, 1) := by decide +kernel
theorem dX12_everyColour_8 : decode cX12_everyColour 8 = .ok (.iconst 1, 1) := by decide +kernel
theorem dX12_everyColour_9 : decode cX12_everyColour 9 = .ok (.isub, 1) := by decide +kernel
theorem dX12_everyColour_10 : decode cX12_everyColour 10 = .ok (.ireturn, 1) := by decide +kernel
theorem dX12_isSet_0 : decode cX12_isSet 0 = .ok (.aload_n 0, 1) := by decide +kernel
theorem dX12_isSet_1 : decode cX12_isSet 1 = .ok (.getfield 52, 3) := by decide +kernel
theorem dX12_isSet_4 : decode cX12_isSet 4 = .ok (.iconst 0, 1) := by decide +kernel
theorem dX12_isSet_5 : decode cX12_isSet 5 = .ok (.iaload, 1) := by decide +kernel
theorem dX12_isSet_6 : decode cX12_isSet 6 = .ok (.ifCond .le 19, 3) := by decide +kernel
theorem dX12_isSet_9 : decode cX12_isSet 9 = .ok (.iload_n 1, 1) := by decide +kernel
theorem dX12_isSet_10 : decode cX12_isSet 10 = .ok (.iconst 1, 1) := by decide +kernel
theorem dX12_isSet_11 : decode cX12_isSet 11 = .ok (.aload_n 0, 1) := by decide +kernel
theorem dX12_isSet_12 : decode cX12_isSet 12 = .ok (.invokevirtual 385, 3) := by decide +kernel
theorem dX12_isSet_15 : decode cX12_isSet 15 = .ok (.invokestatic 238, 3) := by decide +kernel
theorem dX12_isSet_18 : decode cX12_isSet 18 = .ok (.ifCond .eq 7, 3) := by decide +kernel
theorem dX12_isSet_21 : decode cX12_isSet 21 = .ok (.iconst 1, 1) := by decide +kernel
theorem dX12_isSet_22 : decode cX12_isSet 22 = .ok (.goto 4, 3) := by decide +kernel
theorem dX12_isSet_25 : decode cX12_isSet 25 = .ok (.iconst 0, 1) := by decide +kernel
theorem dX12_isSet_26 : decode cX12_isSet 26 = .ok (.ireturn, 1) := by decide +kernel
theorem dX12_areMouths_0 : decode cX12_areMouths 0 = .ok (.aload_n 0, 1) := by decide +kernel
theorem dX12_areMouths_1 : decode cX12_areMouths 1 = .ok (.iload_n 1, 1) := by decide +kernel
theorem dX12_areMouths_2 : decode cX12_areMouths 2 = .ok (.invokevirtual 333, 3) := by decide +kernel
theorem dX12_areMouths_5 : decode cX12_areMouths 5 = .ok (.ifCond .eq 15, 3) := by decide +kernel
theorem dX12_areMouths_8 : decode cX12_areMouths 8 = .ok (.aload_n 0, 1) := by decide +kernel
theorem dX12_areMouths_9 : decode cX12_areMouths 9 = .ok (.iload_n 2, 1) := by decide +kernel
theorem dX12_areMouths_10 : decode cX12_areMouths 10 = .ok (.invokevirtual 333, 3) := by decide +kernel
theorem dX12_areMouths_13 : decode cX12_areMouths 13 = .ok (.ifCond .eq 7, 3) := by decide +kernel
theorem dX12_areMouths_16 : decode cX12_areMouths 16 = .ok (.iconst 1, 1) := by decide +kernel
theorem dX12_areMouths_17 : decode cX12_areMouths 17 = .ok (.goto 4, 3) := by decide +kernel
theorem dX12_areMouths_20 : decode cX12_areMouths 20 = .ok (.iconst 0, 1) := by decide +kernel
theorem dX12_areMouths_21 : decode cX12_areMouths 21 = .ok (.ireturn, 1) := by decide +kernel
theorem dX12_layChanges_0 : decode cX12_layChanges 0 = .ok (.iconst 0, 1) := by decide +kernel
theorem dX12_layChanges_1 : decode cX12_layChanges 1 = .ok (.istore_n 3, 1) := by decide +kernel
theorem dX12_layChanges_2 : decode cX12_layChanges 2 = .ok (.iload_n 3, 1) := by decide +kernel
theorem dX12_layChanges_3 : decode cX12_layChanges 3 = .ok (.bipush 40, 2) := by decide +kernel
theorem dX12_layChanges_5 : decode cX12_layChanges 5 = .ok (.if_icmp .ge 18, 3) := by decide +kernel
theorem dX12_layChanges_8 : decode cX12_layChanges 8 = .ok (.aload_n 0, 1) := by decide +kernel
theorem dX12_layChanges_9 : decode cX12_layChanges 9 = .ok (.getfield 77, 3) := by decide +kernel
theorem dX12_layChanges_12 : decode cX12_layChanges 12 = .ok (.iload_n 3, 1) := by decide +kernel
theorem dX12_layChanges_13 : decode cX12_layChanges 13 = .ok (.ldc_w 388, 3) := by decide +kernel
theorem dX12_layChanges_16 : decode cX12_layChanges 16 = .ok (.iastore, 1) := by decide +kernel
theorem dX12_layChanges_17 : decode cX12_layChanges 17 = .ok (.iinc 3 1, 3) := by decide +kernel
theorem dX12_layChanges_20 : decode cX12_layChanges 20 = .ok (.goto (-18), 3) := by decide +kernel
theorem dX12_layChanges_23 : decode cX12_layChanges 23 = .ok (.iconst 0, 1) := by decide +kernel
theorem dX12_layChanges_24 : decode cX12_layChanges 24 = .ok (.istore_n 3, 1) := by decide +kernel
theorem dX12_layChanges_25 : decode cX12_layChanges 25 = .ok (.iload_n 3, 1) := by decide +kernel
theorem dX12_layChanges_26 : decode cX12_layChanges 26 = .ok (.aload_n 0, 1) := by decide +kernel
theorem dX12_layChanges_27 : decode cX12_layChanges 27 = .ok (.getfield 52, 3) := by decide +kernel
theorem dX12_layChanges_30 : decode cX12_layChanges 30 = .ok (.iconst 1, 1) := by decide +kernel
theorem dX12_layChanges_31 : decode cX12_layChanges 31 = .ok (.iaload, 1) := by decide +kernel
theorem dX12_layChanges_32 : decode cX12_layChanges 32 = .ok (.if_icmp .ge 34, 3) := by decide +kernel
theorem dX12_layChanges_35 : decode cX12_layChanges 35 = .ok (.aload_n 0, 1) := by decide +kernel
theorem dX12_layChanges_36 : decode cX12_layChanges 36 = .ok (.getfield 77, 3) := by decide +kernel
theorem dX12_layChanges_39 : decode cX12_layChanges 39 = .ok (.iconst 5, 1) := by decide +kernel
theorem dX12_layChanges_40 : decode cX12_layChanges 40 = .ok (.iload_n 1, 1) := by decide +kernel
theorem dX12_layChanges_41 : decode cX12_layChanges 41 = .ok (.imul, 1) := by decide +kernel
theorem dX12_layChanges_42 : decode cX12_layChanges 42 = .ok (.iload_n 3, 1) := by decide +kernel
theorem dX12_layChanges_43 : decode cX12_layChanges 43 = .ok (.iadd, 1) := by decide +kernel
theorem dX12_layChanges_44 : decode cX12_layChanges 44 = .ok (.iload_n 2, 1) := by decide +kernel
theorem dX12_layChanges_45 : decode cX12_layChanges 45 = .ok (.iload_n 3, 1) := by decide +kernel
theorem dX12_layChanges_46 : decode cX12_layChanges 46 = .ok (.invokestatic 249, 3) := by decide +kernel
theorem dX12_layChanges_49 : decode cX12_layChanges 49 = .ok (.ifCond .eq 7, 3) := by decide +kernel
theorem dX12_layChanges_52 : decode cX12_layChanges 52 = .ok (.iconst 0, 1) := by decide +kernel
theorem dX12_layChanges_53 : decode cX12_layChanges 53 = .ok (.goto 6, 3) := by decide +kernel
theorem dX12_layChanges_56 : decode cX12_layChanges 56 = .ok (.ldc_w 388, 3) := by decide +kernel
theorem dX12_layChanges_59 : decode cX12_layChanges 59 = .ok (.iastore, 1) := by decide +kernel
theorem dX12_layChanges_60 : decode cX12_layChanges 60 = .ok (.iinc 3 1, 3) := by decide +kernel
theorem dX12_layChanges_63 : decode cX12_layChanges 63 = .ok (.goto (-38), 3) := by decide +kernel
theorem dX12_layChanges_66 : decode cX12_layChanges 66 = .ok (.iconst 1, 1) := by decide +kernel
theorem dX12_layChanges_67 : decode cX12_layChanges 67 = .ok (.istore_n 3, 1) := by decide +kernel
theorem dX12_layChanges_68 : decode cX12_layChanges 68 = .ok (.iload_n 3, 1) := by decide +kernel
theorem dX12_layChanges_69 : decode cX12_layChanges 69 = .ok (.ifCond .eq 70, 3) := by decide +kernel
theorem dX12_layChanges_72 : decode cX12_layChanges 72 = .ok (.iconst 0, 1) := by decide +kernel
theorem dX12_layChanges_73 : decode cX12_layChanges 73 = .ok (.istore_n 3, 1) := by decide +kernel
theorem dX12_layChanges_74 : decode cX12_layChanges 74 = .ok (.iconst 0, 1) := by decide +kernel
theorem dX12_layChanges_75 : decode cX12_layChanges 75 = .ok (.istore 4, 2) := by decide +kernel
theorem dX12_layChanges_77 : decode cX12_layChanges 77 = .ok (.iload 4, 2) := by decide +kernel
theorem dX12_layChanges_79 : decode cX12_layChanges 79 = .ok (.aload_n 0, 1) := by decide +kernel
theorem dX12_layChanges_80 : decode cX12_layChanges 80 = .ok (.getfield 52, 3) := by decide +kernel
theorem dX12_layChanges_83 : decode cX12_layChanges 83 = .ok (.iconst 0, 1) := by decide +kernel
theorem dX12_layChanges_84 : decode cX12_layChanges 84 = .ok (.iaload, 1) := by decide +kernel
theorem dX12_layChanges_85 : decode cX12_layChanges 85 = .ok (.if_icmp .ge 51, 3) := by decide +kernel
theorem dX12_layChanges_88 : decode cX12_layChanges 88 = .ok (.iconst 0, 1) := by decide +kernel
theorem dX12_layChanges_89 : decode cX12_layChanges 89 = .ok (.istore 5, 2) := by decide +kernel
theorem dX12_layChanges_91 : decode cX12_layChanges 91 = .ok (.iload 5, 2) := by decide +kernel
theorem dX12_layChanges_93 : decode cX12_layChanges 93 = .ok (.aload_n 0, 1) := by decide +kernel
theorem dX12_layChanges_94 : decode cX12_layChanges 94 = .ok (.getfield 52, 3) := by decide +kernel
theorem dX12_layChanges_97 : decode cX12_layChanges 97 = .ok (.iconst 1, 1) := by decide +kernel
theorem dX12_layChanges_98 : decode cX12_layChanges 98 = .ok (.iaload, 1) := by decide +kernel
theorem dX12_layChanges_99 : decode cX12_layChanges 99 = .ok (.if_icmp .ge 31, 3) := by decide +kernel
theorem dX12_layChanges_102 : decode cX12_layChanges 102 = .ok (.aload_n 0, 1) := by decide +kernel
theorem dX12_layChanges_103 : decode cX12_layChanges 103 = .ok (.iload 4, 2) := by decide +kernel
theorem dX12_layChanges_105 : decode cX12_layChanges 105 = .ok (.iload 5, 2) := by decide +kernel
theorem dX12_layChanges_107 : decode cX12_layChanges 107 = .ok (.iload_n 2, 1) := by decide +kernel
theorem dX12_layChanges_108 : decode cX12_layChanges 108 = .ok (.invokevirtual 389, 3) := by decide +kernel
theorem dX12_layChanges_111 : decode cX12_layChanges 111 = .ok (.ifCond .ne 7, 3) := by decide +kernel
theorem dX12_layChanges_114 : decode cX12_layChanges 114 = .ok (.iload_n 3, 1) := by decide +kernel
theorem dX12_layChanges_115 : decode cX12_layChanges 115 = .ok (.ifCond .eq 7, 3) := by decide +kernel
theorem dX12_layChanges_118 : decode cX12_layChanges 118 = .ok (.iconst 1, 1) := by decide +kernel
theorem dX12_layChanges_119 : decode cX12_layChanges 119 = .ok (.goto 4, 3) := by decide +kernel
theorem dX12_layChanges_122 : decode cX12_layChanges 122 = .ok (.iconst 0, 1) := by decide +kernel
theorem dX12_layChanges_123 : decode cX12_layChanges 123 = .ok (.istore_n 3, 1) := by decide +kernel
theorem dX12_layChanges_124 : decode cX12_layChanges 124 = .ok (.iinc 5 1, 3) := by decide +kernel
theorem dX12_layChanges_127 : decode cX12_layChanges 127 = .ok (.goto (-36), 3) := by decide +kernel
theorem dX12_layChanges_130 : decode cX12_layChanges 130 = .ok (.iinc 4 1, 3) := by decide +kernel
theorem dX12_layChanges_133 : decode cX12_layChanges 133 = .ok (.goto (-56), 3) := by decide +kernel
theorem dX12_layChanges_136 : decode cX12_layChanges 136 = .ok (.goto (-68), 3) := by decide +kernel
theorem dX12_layChanges_139 : decode cX12_layChanges 139 = .ok (.return_, 1) := by decide +kernel
theorem dX12_spreadChanges_0 : decode cX12_spreadChanges 0 = .ok (.aload_n 0, 1) := by decide +kernel
theorem dX12_spreadChanges_1 : decode cX12_spreadChanges 1 = .ok (.getfield 77, 3) := by decide +kernel
theorem dX12_spreadChanges_4 : decode cX12_spreadChanges 4 = .ok (.iconst 5, 1) := by decide +kernel
theorem dX12_spreadChanges_5 : decode cX12_spreadChanges 5 = .ok (.iload_n 1, 1) := by decide +kernel
theorem dX12_spreadChanges_6 : decode cX12_spreadChanges 6 = .ok (.imul, 1) := by decide +kernel
theorem dX12_spreadChanges_7 : decode cX12_spreadChanges 7 = .ok (.iload_n 2, 1) := by decide +kernel
theorem dX12_spreadChanges_8 : decode cX12_spreadChanges 8 = .ok (.iadd, 1) := by decide +kernel
theorem dX12_spreadChanges_9 : decode cX12_spreadChanges 9 = .ok (.iaload, 1) := by decide +kernel
theorem dX12_spreadChanges_10 : decode cX12_spreadChanges 10 = .ok (.istore 4, 2) := by decide +kernel
theorem dX12_spreadChanges_12 : decode cX12_spreadChanges 12 = .ok (.iload 4, 2) := by decide +kernel
theorem dX12_spreadChanges_14 : decode cX12_spreadChanges 14 = .ok (.ldc_w 388, 3) := by decide +kernel
theorem dX12_spreadChanges_17 : decode cX12_spreadChanges 17 = .ok (.if_icmp .ne 5, 3) := by decide +kernel
theorem dX12_spreadChanges_20 : decode cX12_spreadChanges 20 = .ok (.iconst 0, 1) := by decide +kernel
theorem dX12_spreadChanges_21 : decode cX12_spreadChanges 21 = .ok (.ireturn, 1) := by decide +kernel
theorem dX12_spreadChanges_22 : decode cX12_spreadChanges 22 = .ok (.iconst 5, 1) := by decide +kernel
theorem dX12_spreadChanges_23 : decode cX12_spreadChanges 23 = .ok (.aload_n 0, 1) := by decide +kernel
theorem dX12_spreadChanges_24 : decode cX12_spreadChanges 24 = .ok (.iload_n 1, 1) := by decide +kernel
theorem dX12_spreadChanges_25 : decode cX12_spreadChanges 25 = .ok (.iload_n 2, 1) := by decide +kernel
theorem dX12_spreadChanges_26 : decode cX12_spreadChanges 26 = .ok (.invokevirtual 323, 3) := by decide +kernel
theorem dX12_spreadChanges_29 : decode cX12_spreadChanges 29 = .ok (.imul, 1) := by decide +kernel
theorem dX12_spreadChanges_30 : decode cX12_spreadChanges 30 = .ok (.iload_n 2, 1) := by decide +kernel
theorem dX12_spreadChanges_31 : decode cX12_spreadChanges 31 = .ok (.iadd, 1) := by decide +kernel
theorem dX12_spreadChanges_32 : decode cX12_spreadChanges 32 = .ok (.istore 5, 2) := by decide +kernel
theorem dX12_spreadChanges_34 : decode cX12_spreadChanges 34 = .ok (.iload 4, 2) := by decide +kernel
theorem dX12_spreadChanges_36 : decode cX12_spreadChanges 36 = .ok (.aload_n 0, 1) := by decide +kernel
theorem dX12_spreadChanges_37 : decode cX12_spreadChanges 37 = .ok (.getfield 77, 3) := by decide +kernel
theorem dX12_spreadChanges_40 : decode cX12_spreadChanges 40 = .ok (.iload 5, 2) := by decide +kernel
theorem dX12_spreadChanges_42 : decode cX12_spreadChanges 42 = .ok (.iaload, 1) := by decide +kernel
theorem dX12_spreadChanges_43 : decode cX12_spreadChanges 43 = .ok (.if_icmp .ge 7, 3) := by decide +kernel
theorem dX12_spreadChanges_46 : decode cX12_spreadChanges 46 = .ok (.iconst 1, 1) := by decide +kernel
theorem dX12_spreadChanges_47 : decode cX12_spreadChanges 47 = .ok (.goto 4, 3) := by decide +kernel
theorem dX12_spreadChanges_50 : decode cX12_spreadChanges 50 = .ok (.iconst 0, 1) := by decide +kernel
theorem dX12_spreadChanges_51 : decode cX12_spreadChanges 51 = .ok (.istore 6, 2) := by decide +kernel
theorem dX12_spreadChanges_53 : decode cX12_spreadChanges 53 = .ok (.aload_n 0, 1) := by decide +kernel
theorem dX12_spreadChanges_54 : decode cX12_spreadChanges 54 = .ok (.getfield 77, 3) := by decide +kernel
theorem dX12_spreadChanges_57 : decode cX12_spreadChanges 57 = .ok (.iload 5, 2) := by decide +kernel
theorem dX12_spreadChanges_59 : decode cX12_spreadChanges 59 = .ok (.aload_n 0, 1) := by decide +kernel
theorem dX12_spreadChanges_60 : decode cX12_spreadChanges 60 = .ok (.getfield 77, 3) := by decide +kernel
theorem dX12_spreadChanges_63 : decode cX12_spreadChanges 63 = .ok (.iload 5, 2) := by decide +kernel
theorem dX12_spreadChanges_65 : decode cX12_spreadChanges 65 = .ok (.iaload, 1) := by decide +kernel
theorem dX12_spreadChanges_66 : decode cX12_spreadChanges 66 = .ok (.iload 4, 2) := by decide +kernel
theorem dX12_spreadChanges_68 : decode cX12_spreadChanges 68 = .ok (.invokestatic 329, 3) := by decide +kernel
theorem dX12_spreadChanges_71 : decode cX12_spreadChanges 71 = .ok (.iastore, 1) := by decide +kernel
theorem dX12_spreadChanges_72 : decode cX12_spreadChanges 72 = .ok (.iconst 0, 1) := by decide +kernel
theorem dX12_spreadChanges_73 : decode cX12_spreadChanges 73 = .ok (.istore 7, 2) := by decide +kernel
theorem dX12_spreadChanges_75 : decode cX12_spreadChanges 75 = .ok (.iload 7, 2) := by decide +kernel
theorem dX12_spreadChanges_77 : decode cX12_spreadChanges 77 = .ok (.aload_n 0, 1) := by decide +kernel
theorem dX12_spreadChanges_78 : decode cX12_spreadChanges 78 = .ok (.getfield 52, 3) := by decide +kernel
theorem dX12_spreadChanges_81 : decode cX12_spreadChanges 81 = .ok (.iconst 1, 1) := by decide +kernel
theorem dX12_spreadChanges_82 : decode cX12_spreadChanges 82 = .ok (.iaload, 1) := by decide +kernel
theorem dX12_spreadChanges_83 : decode cX12_spreadChanges 83 = .ok (.if_icmp .ge 54, 3) := by decide +kernel
theorem dX12_spreadChanges_86 : decode cX12_spreadChanges 86 = .ok (.iconst 5, 1) := by decide +kernel
theorem dX12_spreadChanges_87 : decode cX12_spreadChanges 87 = .ok (.iload_n 1, 1) := by decide +kernel
theorem dX12_spreadChanges_88 : decode cX12_spreadChanges 88 = .ok (.imul, 1) := by decide +kernel
theorem dX12_spreadChanges_89 : decode cX12_spreadChanges 89 = .ok (.iload 7, 2) := by decide +kernel
theorem dX12_spreadChanges_91 : decode cX12_spreadChanges 91 = .ok (.iadd, 1) := by decide +kernel
theorem dX12_spreadChanges_92 : decode cX12_spreadChanges 92 = .ok (.istore 8, 2) := by decide +kernel
theorem dX12_spreadChanges_94 : decode cX12_spreadChanges 94 = .ok (.iload_n 3, 1) := by decide +kernel
theorem dX12_spreadChanges_95 : decode cX12_spreadChanges 95 = .ok (.iload 7, 2) := by decide +kernel
theorem dX12_spreadChanges_97 : decode cX12_spreadChanges 97 = .ok (.invokestatic 249, 3) := by decide +kernel
theorem dX12_spreadChanges_100 : decode cX12_spreadChanges 100 = .ok (.ifCond .eq 31, 3) := by decide +kernel
theorem dX12_spreadChanges_103 : decode cX12_spreadChanges 103 = .ok (.iload 4, 2) := by decide +kernel
theorem dX12_spreadChanges_105 : decode cX12_spreadChanges 105 = .ok (.iconst 1, 1) := by decide +kernel
theorem dX12_spreadChanges_106 : decode cX12_spreadChanges 106 = .ok (.iadd, 1) := by decide +kernel
theorem dX12_spreadChanges_107 : decode cX12_spreadChanges 107 = .ok (.aload_n 0, 1) := by decide +kernel
theorem dX12_spreadChanges_108 : decode cX12_spreadChanges 108 = .ok (.getfield 77, 3) := by decide +kernel
theorem dX12_spreadChanges_111 : decode cX12_spreadChanges 111 = .ok (.iload 8, 2) := by decide +kernel
theorem dX12_spreadChanges_113 : decode cX12_spreadChanges 113 = .ok (.iaload, 1) := by decide +kernel
theorem dX12_spreadChanges_114 : decode cX12_spreadChanges 114 = .ok (.if_icmp .ge 17, 3) := by decide +kernel
theorem dX12_spreadChanges_117 : decode cX12_spreadChanges 117 = .ok (.aload_n 0, 1) := by decide +kernel
theorem dX12_spreadChanges_118 : decode cX12_spreadChanges 118 = .ok (.getfield 77, 3) := by decide +kernel
theorem dX12_spreadChanges_121 : decode cX12_spreadChanges 121 = .ok (.iload 8, 2) := by decide +kernel
theorem dX12_spreadChanges_123 : decode cX12_spreadChanges 123 = .ok (.iload 4, 2) := by decide +kernel
theorem dX12_spreadChanges_125 : decode cX12_spreadChanges 125 = .ok (.iconst 1, 1) := by decide +kernel
theorem dX12_spreadChanges_126 : decode cX12_spreadChanges 126 = .ok (.iadd, 1) := by decide +kernel
theorem dX12_spreadChanges_127 : decode cX12_spreadChanges 127 = .ok (.iastore, 1) := by decide +kernel
theorem dX12_spreadChanges_128 : decode cX12_spreadChanges 128 = .ok (.iconst 1, 1) := by decide +kernel
theorem dX12_spreadChanges_129 : decode cX12_spreadChanges 129 = .ok (.istore 6, 2) := by decide +kernel
theorem dX12_spreadChanges_131 : decode cX12_spreadChanges 131 = .ok (.iinc 7 1, 3) := by decide +kernel
theorem dX12_spreadChanges_134 : decode cX12_spreadChanges 134 = .ok (.goto (-59), 3) := by decide +kernel
theorem dX12_spreadChanges_137 : decode cX12_spreadChanges 137 = .ok (.iload 6, 2) := by decide +kernel
theorem dX12_spreadChanges_139 : decode cX12_spreadChanges 139 = .ok (.ireturn, 1) := by decide +kernel
theorem dX12_changes_0 : decode cX12_changes 0 = .ok (.aload_n 0, 1) := by decide +kernel
theorem dX12_changes_1 : decode cX12_changes 1 = .ok (.iload_n 1, 1) := by decide +kernel
theorem dX12_changes_2 : decode cX12_changes 2 = .ok (.iload_n 2, 1) := by decide +kernel
theorem dX12_changes_3 : decode cX12_changes 3 = .ok (.invokevirtual 392, 3) := by decide +kernel
theorem dX12_changes_6 : decode cX12_changes 6 = .ok (.ifCond .eq 11, 3) := by decide +kernel
theorem dX12_changes_9 : decode cX12_changes 9 = .ok (.aload_n 0, 1) := by decide +kernel
theorem dX12_changes_10 : decode cX12_changes 10 = .ok (.iload_n 3, 1) := by decide +kernel
theorem dX12_changes_11 : decode cX12_changes 11 = .ok (.invokevirtual 395, 3) := by decide +kernel
theorem dX12_changes_14 : decode cX12_changes 14 = .ok (.ifCond .ne 5, 3) := by decide +kernel
theorem dX12_changes_17 : decode cX12_changes 17 = .ok (.iconst (-1), 1) := by decide +kernel
theorem dX12_changes_18 : decode cX12_changes 18 = .ok (.ireturn, 1) := by decide +kernel
theorem dX12_changes_19 : decode cX12_changes 19 = .ok (.iload_n 1, 1) := by decide +kernel
theorem dX12_changes_20 : decode cX12_changes 20 = .ok (.iload_n 2, 1) := by decide +kernel
theorem dX12_changes_21 : decode cX12_changes 21 = .ok (.if_icmp .ne 5, 3) := by decide +kernel
theorem dX12_changes_24 : decode cX12_changes 24 = .ok (.iconst 0, 1) := by decide +kernel
theorem dX12_changes_25 : decode cX12_changes 25 = .ok (.ireturn, 1) := by decide +kernel
theorem dX12_changes_26 : decode cX12_changes 26 = .ok (.aload_n 0, 1) := by decide +kernel
theorem dX12_changes_27 : decode cX12_changes 27 = .ok (.iload_n 1, 1) := by decide +kernel
theorem dX12_changes_28 : decode cX12_changes 28 = .ok (.iload_n 3, 1) := by decide +kernel
theorem dX12_changes_29 : decode cX12_changes 29 = .ok (.invokevirtual 398, 3) := by decide +kernel
theorem dX12_changes_32 : decode cX12_changes 32 = .ok (.ldc_w 388, 3) := by decide +kernel
theorem dX12_changes_35 : decode cX12_changes 35 = .ok (.istore 4, 2) := by decide +kernel
theorem dX12_changes_37 : decode cX12_changes 37 = .ok (.iconst 0, 1) := by decide +kernel
theorem dX12_changes_38 : decode cX12_changes 38 = .ok (.istore 5, 2) := by decide +kernel
theorem dX12_changes_40 : decode cX12_changes 40 = .ok (.iload 5, 2) := by decide +kernel
theorem dX12_changes_42 : decode cX12_changes 42 = .ok (.aload_n 0, 1) := by decide +kernel
theorem dX12_changes_43 : decode cX12_changes 43 = .ok (.getfield 52, 3) := by decide +kernel
theorem dX12_changes_46 : decode cX12_changes 46 = .ok (.iconst 1, 1) := by decide +kernel
theorem dX12_changes_47 : decode cX12_changes 47 = .ok (.iaload, 1) := by decide +kernel
theorem dX12_changes_48 : decode cX12_changes 48 = .ok (.if_icmp .ge 27, 3) := by decide +kernel
theorem dX12_changes_51 : decode cX12_changes 51 = .ok (.iload 4, 2) := by decide +kernel
theorem dX12_changes_53 : decode cX12_changes 53 = .ok (.aload_n 0, 1) := by decide +kernel
theorem dX12_changes_54 : decode cX12_changes 54 = .ok (.getfield 77, 3) := by decide +kernel
theorem dX12_changes_57 : decode cX12_changes 57 = .ok (.iconst 5, 1) := by decide +kernel
theorem dX12_changes_58 : decode cX12_changes 58 = .ok (.iload_n 2, 1) := by decide +kernel
theorem dX12_changes_59 : decode cX12_changes 59 = .ok (.imul, 1) := by decide +kernel
theorem dX12_changes_60 : decode cX12_changes 60 = .ok (.iload 5, 2) := by decide +kernel
theorem dX12_changes_62 : decode cX12_changes 62 = .ok (.iadd, 1) := by decide +kernel
theorem dX12_changes_63 : decode cX12_changes 63 = .ok (.iaload, 1) := by decide +kernel
theorem dX12_changes_64 : decode cX12_changes 64 = .ok (.invokestatic 329, 3) := by decide +kernel
theorem dX12_changes_67 : decode cX12_changes 67 = .ok (.istore 4, 2) := by decide +kernel
theorem dX12_changes_69 : decode cX12_changes 69 = .ok (.iinc 5 1, 3) := by decide +kernel
theorem dX12_changes_72 : decode cX12_changes 72 = .ok (.goto (-32), 3) := by decide +kernel
theorem dX12_changes_75 : decode cX12_changes 75 = .ok (.iload 4, 2) := by decide +kernel
theorem dX12_changes_77 : decode cX12_changes 77 = .ok (.ldc_w 388, 3) := by decide +kernel
theorem dX12_changes_80 : decode cX12_changes 80 = .ok (.if_icmp .ne 7, 3) := by decide +kernel
theorem dX12_changes_83 : decode cX12_changes 83 = .ok (.iconst (-1), 1) := by decide +kernel
theorem dX12_changes_84 : decode cX12_changes 84 = .ok (.goto 5, 3) := by decide +kernel
theorem dX12_changes_87 : decode cX12_changes 87 = .ok (.iload 4, 2) := by decide +kernel
theorem dX12_changes_89 : decode cX12_changes 89 = .ok (.ireturn, 1) := by decide +kernel
theorem dX12_costOf_0 : decode cX12_costOf 0 = .ok (.iload_n 3, 1) := by decide +kernel
theorem dX12_costOf_1 : decode cX12_costOf 1 = .ok (.ifCond .eq 12, 3) := by decide +kernel
theorem dX12_costOf_4 : decode cX12_costOf 4 = .ok (.aload_n 0, 1) := by decide +kernel
theorem dX12_costOf_5 : decode cX12_costOf 5 = .ok (.iload_n 1, 1) := by decide +kernel
theorem dX12_costOf_6 : decode cX12_costOf 6 = .ok (.iload_n 2, 1) := by decide +kernel
theorem dX12_costOf_7 : decode cX12_costOf 7 = .ok (.invokevirtual 340, 3) := by decide +kernel
theorem dX12_costOf_10 : decode cX12_costOf 10 = .ok (.goto 9, 3) := by decide +kernel
theorem dX12_costOf_13 : decode cX12_costOf 13 = .ok (.aload_n 0, 1) := by decide +kernel
theorem dX12_costOf_14 : decode cX12_costOf 14 = .ok (.iload_n 1, 1) := by decide +kernel
theorem dX12_costOf_15 : decode cX12_costOf 15 = .ok (.iload_n 2, 1) := by decide +kernel
theorem dX12_costOf_16 : decode cX12_costOf 16 = .ok (.invokevirtual 320, 3) := by decide +kernel
theorem dX12_costOf_19 : decode cX12_costOf 19 = .ok (.ireturn, 1) := by decide +kernel
theorem dX12_layAway_0 : decode cX12_layAway 0 = .ok (.iconst 0, 1) := by decide +kernel
theorem dX12_layAway_1 : decode cX12_layAway 1 = .ok (.istore 5, 2) := by decide +kernel
theorem dX12_layAway_3 : decode cX12_layAway 3 = .ok (.iload 5, 2) := by decide +kernel
theorem dX12_layAway_5 : decode cX12_layAway 5 = .ok (.bipush 8, 2) := by decide +kernel
theorem dX12_layAway_7 : decode cX12_layAway 7 = .ok (.if_icmp .ge 29, 3) := by decide +kernel
theorem dX12_layAway_10 : decode cX12_layAway 10 = .ok (.aload_n 0, 1) := by decide +kernel
theorem dX12_layAway_11 : decode cX12_layAway 11 = .ok (.getfield 80, 3) := by decide +kernel
theorem dX12_layAway_14 : decode cX12_layAway 14 = .ok (.iload 5, 2) := by decide +kernel
theorem dX12_layAway_16 : decode cX12_layAway 16 = .ok (.iload 5, 2) := by decide +kernel
theorem dX12_layAway_18 : decode cX12_layAway 18 = .ok (.iload_n 1, 1) := by decide +kernel
theorem dX12_layAway_19 : decode cX12_layAway 19 = .ok (.if_icmp .ne 7, 3) := by decide +kernel
theorem dX12_layAway_22 : decode cX12_layAway 22 = .ok (.iconst 0, 1) := by decide +kernel
theorem dX12_layAway_23 : decode cX12_layAway 23 = .ok (.goto 6, 3) := by decide +kernel
theorem dX12_layAway_26 : decode cX12_layAway 26 = .ok (.ldc_w 388, 3) := by decide +kernel
theorem dX12_layAway_29 : decode cX12_layAway 29 = .ok (.iastore, 1) := by decide +kernel
theorem dX12_layAway_30 : decode cX12_layAway 30 = .ok (.iinc 5 1, 3) := by decide +kernel
theorem dX12_layAway_33 : decode cX12_layAway 33 = .ok (.goto (-30), 3) := by decide +kernel
theorem dX12_layAway_36 : decode cX12_layAway 36 = .ok (.iconst 0, 1) := by decide +kernel
theorem dX12_layAway_37 : decode cX12_layAway 37 = .ok (.istore 5, 2) := by decide +kernel
theorem dX12_layAway_39 : decode cX12_layAway 39 = .ok (.iload 5, 2) := by decide +kernel
theorem dX12_layAway_41 : decode cX12_layAway 41 = .ok (.bipush 8, 2) := by decide +kernel
theorem dX12_layAway_43 : decode cX12_layAway 43 = .ok (.if_icmp .ge 153, 3) := by decide +kernel
theorem dX12_layAway_46 : decode cX12_layAway 46 = .ok (.iconst 0, 1) := by decide +kernel
theorem dX12_layAway_47 : decode cX12_layAway 47 = .ok (.istore 6, 2) := by decide +kernel
theorem dX12_layAway_49 : decode cX12_layAway 49 = .ok (.iload 6, 2) := by decide +kernel
theorem dX12_layAway_51 : decode cX12_layAway 51 = .ok (.aload_n 0, 1) := by decide +kernel
theorem dX12_layAway_52 : decode cX12_layAway 52 = .ok (.getfield 52, 3) := by decide +kernel
theorem dX12_layAway_55 : decode cX12_layAway 55 = .ok (.iconst 0, 1) := by decide +kernel
theorem dX12_layAway_56 : decode cX12_layAway 56 = .ok (.iaload, 1) := by decide +kernel
theorem dX12_layAway_57 : decode cX12_layAway 57 = .ok (.if_icmp .ge 133, 3) := by decide +kernel
theorem dX12_layAway_60 : decode cX12_layAway 60 = .ok (.iconst 0, 1) := by decide +kernel
theorem dX12_layAway_61 : decode cX12_layAway 61 = .ok (.istore 7, 2) := by decide +kernel
theorem dX12_layAway_63 : decode cX12_layAway 63 = .ok (.iload 7, 2) := by decide +kernel
theorem dX12_layAway_65 : decode cX12_layAway 65 = .ok (.aload_n 0, 1) := by decide +kernel
theorem dX12_layAway_66 : decode cX12_layAway 66 = .ok (.getfield 52, 3) := by decide +kernel
theorem dX12_layAway_69 : decode cX12_layAway 69 = .ok (.iconst 1, 1) := by decide +kernel
theorem dX12_layAway_70 : decode cX12_layAway 70 = .ok (.iaload, 1) := by decide +kernel
theorem dX12_layAway_71 : decode cX12_layAway 71 = .ok (.if_icmp .ge 113, 3) := by decide +kernel
theorem dX12_layAway_74 : decode cX12_layAway 74 = .ok (.aload_n 0, 1) := by decide +kernel
theorem dX12_layAway_75 : decode cX12_layAway 75 = .ok (.iload 6, 2) := by decide +kernel
theorem dX12_layAway_77 : decode cX12_layAway 77 = .ok (.iload 7, 2) := by decide +kernel
theorem dX12_layAway_79 : decode cX12_layAway 79 = .ok (.invokevirtual 323, 3) := by decide +kernel
theorem dX12_layAway_82 : decode cX12_layAway 82 = .ok (.istore 8, 2) := by decide +kernel
theorem dX12_layAway_84 : decode cX12_layAway 84 = .ok (.iload_n 2, 1) := by decide +kernel
theorem dX12_layAway_85 : decode cX12_layAway 85 = .ok (.iload 7, 2) := by decide +kernel
theorem dX12_layAway_87 : decode cX12_layAway 87 = .ok (.invokestatic 249, 3) := by decide +kernel
theorem dX12_layAway_90 : decode cX12_layAway 90 = .ok (.ifCond .eq 36, 3) := by decide +kernel
theorem dX12_layAway_93 : decode cX12_layAway 93 = .ok (.aload_n 0, 1) := by decide +kernel
theorem dX12_layAway_94 : decode cX12_layAway 94 = .ok (.getfield 80, 3) := by decide +kernel
theorem dX12_layAway_97 : decode cX12_layAway 97 = .ok (.iload 8, 2) := by decide +kernel
theorem dX12_layAway_99 : decode cX12_layAway 99 = .ok (.iaload, 1) := by decide +kernel
theorem dX12_layAway_100 : decode cX12_layAway 100 = .ok (.ldc_w 388, 3) := by decide +kernel
theorem dX12_layAway_103 : decode cX12_layAway 103 = .ok (.if_icmp .ge 23, 3) := by decide +kernel
theorem dX12_layAway_106 : decode cX12_layAway 106 = .ok (.iload 8, 2) := by decide +kernel
theorem dX12_layAway_108 : decode cX12_layAway 108 = .ok (.iload_n 1, 1) := by decide +kernel
theorem dX12_layAway_109 : decode cX12_layAway 109 = .ok (.if_icmp .eq 13, 3) := by decide +kernel
theorem dX12_layAway_112 : decode cX12_layAway 112 = .ok (.iload 4, 2) := by decide +kernel
theorem dX12_layAway_114 : decode cX12_layAway 114 = .ok (.iload 8, 2) := by decide +kernel
theorem dX12_layAway_116 : decode cX12_layAway 116 = .ok (.invokestatic 249, 3) := by decide +kernel
theorem dX12_layAway_119 : decode cX12_layAway 119 = .ok (.ifCond .ne 7, 3) := by decide +kernel
theorem dX12_layAway_122 : decode cX12_layAway 122 = .ok (.iconst 1, 1) := by decide +kernel
theorem dX12_layAway_123 : decode cX12_layAway 123 = .ok (.goto 4, 3) := by decide +kernel
theorem dX12_layAway_126 : decode cX12_layAway 126 = .ok (.iconst 0, 1) := by decide +kernel
theorem dX12_layAway_127 : decode cX12_layAway 127 = .ok (.istore 9, 2) := by decide +kernel
theorem dX12_layAway_129 : decode cX12_layAway 129 = .ok (.aload_n 0, 1) := by decide +kernel
theorem dX12_layAway_130 : decode cX12_layAway 130 = .ok (.getfield 80, 3) := by decide +kernel
theorem dX12_layAway_133 : decode cX12_layAway 133 = .ok (.iload 6, 2) := by decide +kernel
theorem dX12_layAway_135 : decode cX12_layAway 135 = .ok (.iload 9, 2) := by decide +kernel
theorem dX12_layAway_137 : decode cX12_layAway 137 = .ok (.ifCond .eq 33, 3) := by decide +kernel
theorem dX12_layAway_140 : decode cX12_layAway 140 = .ok (.aload_n 0, 1) := by decide +kernel
theorem dX12_layAway_141 : decode cX12_layAway 141 = .ok (.getfield 80, 3) := by decide +kernel
theorem dX12_layAway_144 : decode cX12_layAway 144 = .ok (.iload 6, 2) := by decide +kernel
theorem dX12_layAway_146 : decode cX12_layAway 146 = .ok (.iaload, 1) := by decide +kernel
theorem dX12_layAway_147 : decode cX12_layAway 147 = .ok (.aload_n 0, 1) := by decide +kernel
theorem dX12_layAway_148 : decode cX12_layAway 148 = .ok (.getfield 80, 3) := by decide +kernel
theorem dX12_layAway_151 : decode cX12_layAway 151 = .ok (.iload 8, 2) := by decide +kernel
theorem dX12_layAway_153 : decode cX12_layAway 153 = .ok (.iaload, 1) := by decide +kernel
theorem dX12_layAway_154 : decode cX12_layAway 154 = .ok (.aload_n 0, 1) := by decide +kernel
theorem dX12_layAway_155 : decode cX12_layAway 155 = .ok (.iload 6, 2) := by decide +kernel
theorem dX12_layAway_157 : decode cX12_layAway 157 = .ok (.iload 7, 2) := by decide +kernel
theorem dX12_layAway_159 : decode cX12_layAway 159 = .ok (.iload_n 3, 1) := by decide +kernel
theorem dX12_layAway_160 : decode cX12_layAway 160 = .ok (.invokevirtual 401, 3) := by decide +kernel
theorem dX12_layAway_163 : decode cX12_layAway 163 = .ok (.iadd, 1) := by decide +kernel
theorem dX12_layAway_164 : decode cX12_layAway 164 = .ok (.invokestatic 329, 3) := by decide +kernel
theorem dX12_layAway_167 : decode cX12_layAway 167 = .ok (.goto 10, 3) := by decide +kernel
theorem dX12_layAway_170 : decode cX12_layAway 170 = .ok (.aload_n 0, 1) := by decide +kernel
theorem dX12_layAway_171 : decode cX12_layAway 171 = .ok (.getfield 80, 3) := by decide +kernel
theorem dX12_layAway_174 : decode cX12_layAway 174 = .ok (.iload 6, 2) := by decide +kernel
theorem dX12_layAway_176 : decode cX12_layAway 176 = .ok (.iaload, 1) := by decide +kernel
theorem dX12_layAway_177 : decode cX12_layAway 177 = .ok (.iastore, 1) := by decide +kernel
theorem dX12_layAway_178 : decode cX12_layAway 178 = .ok (.iinc 7 1, 3) := by decide +kernel
theorem dX12_layAway_181 : decode cX12_layAway 181 = .ok (.goto (-118), 3) := by decide +kernel
theorem dX12_layAway_184 : decode cX12_layAway 184 = .ok (.iinc 6 1, 3) := by decide +kernel
theorem dX12_layAway_187 : decode cX12_layAway 187 = .ok (.goto (-138), 3) := by decide +kernel
theorem dX12_layAway_190 : decode cX12_layAway 190 = .ok (.iinc 5 1, 3) := by decide +kernel
theorem dX12_layAway_193 : decode cX12_layAway 193 = .ok (.goto (-154), 3) := by decide +kernel
theorem dX12_layAway_196 : decode cX12_layAway 196 = .ok (.return_, 1) := by decide +kernel
theorem dX12_soonest_0 : decode cX12_soonest 0 = .ok (.aload_n 0, 1) := by decide +kernel
theorem dX12_soonest_1 : decode cX12_soonest 1 = .ok (.iload_n 1, 1) := by decide +kernel
theorem dX12_soonest_2 : decode cX12_soonest 2 = .ok (.iload_n 2, 1) := by decide +kernel
theorem dX12_soonest_3 : decode cX12_soonest 3 = .ok (.invokevirtual 392, 3) := by decide +kernel
theorem dX12_soonest_6 : decode cX12_soonest 6 = .ok (.ifCond .eq 21, 3) := by decide +kernel
theorem dX12_soonest_9 : decode cX12_soonest 9 = .ok (.aload_n 0, 1) := by decide +kernel
theorem dX12_soonest_10 : decode cX12_soonest 10 = .ok (.iload_n 3, 1) := by decide +kernel
theorem dX12_soonest_11 : decode cX12_soonest 11 = .ok (.invokevirtual 395, 3) := by decide +kernel
theorem dX12_soonest_14 : decode cX12_soonest 14 = .ok (.ifCond .eq 13, 3) := by decide +kernel
theorem dX12_soonest_17 : decode cX12_soonest 17 = .ok (.iload 4, 2) := by decide +kernel
theorem dX12_soonest_19 : decode cX12_soonest 19 = .ok (.iconst 0, 1) := by decide +kernel
theorem dX12_soonest_20 : decode cX12_soonest 20 = .ok (.iconst 1, 1) := by decide +kernel
theorem dX12_soonest_21 : decode cX12_soonest 21 = .ok (.invokestatic 238, 3) := by decide +kernel
theorem dX12_soonest_24 : decode cX12_soonest 24 = .ok (.ifCond .ne 5, 3) := by decide +kernel
theorem dX12_soonest_27 : decode cX12_soonest 27 = .ok (.iconst (-1), 1) := by decide +kernel
theorem dX12_soonest_28 : decode cX12_soonest 28 = .ok (.ireturn, 1) := by decide +kernel
theorem dX12_soonest_29 : decode cX12_soonest 29 = .ok (.aload_n 0, 1) := by decide +kernel
theorem dX12_soonest_30 : decode cX12_soonest 30 = .ok (.iload_n 2, 1) := by decide +kernel
theorem dX12_soonest_31 : decode cX12_soonest 31 = .ok (.iload_n 3, 1) := by decide +kernel
theorem dX12_soonest_32 : decode cX12_soonest 32 = .ok (.iconst 0, 1) := by decide +kernel
theorem dX12_soonest_33 : decode cX12_soonest 33 = .ok (.iconst 0, 1) := by decide +kernel
theorem dX12_soonest_34 : decode cX12_soonest 34 = .ok (.invokevirtual 405, 3) := by decide +kernel
theorem dX12_soonest_37 : decode cX12_soonest 37 = .ok (.aload_n 0, 1) := by decide +kernel
theorem dX12_soonest_38 : decode cX12_soonest 38 = .ok (.getfield 80, 3) := by decide +kernel
theorem dX12_soonest_41 : decode cX12_soonest 41 = .ok (.iload_n 1, 1) := by decide +kernel
theorem dX12_soonest_42 : decode cX12_soonest 42 = .ok (.iaload, 1) := by decide +kernel
theorem dX12_soonest_43 : decode cX12_soonest 43 = .ok (.ldc_w 388, 3) := by decide +kernel
theorem dX12_soonest_46 : decode cX12_soonest 46 = .ok (.if_icmp .eq 8, 3) := by decide +kernel
theorem dX12_soonest_49 : decode cX12_soonest 49 = .ok (.iload 4, 2) := by decide +kernel
theorem dX12_soonest_51 : decode cX12_soonest 51 = .ok (.ifCond .ne 26, 3) := by decide +kernel
theorem dX12_soonest_54 : decode cX12_soonest 54 = .ok (.aload_n 0, 1) := by decide +kernel
theorem dX12_soonest_55 : decode cX12_soonest 55 = .ok (.getfield 80, 3) := by decide +kernel
theorem dX12_soonest_58 : decode cX12_soonest 58 = .ok (.iload_n 1, 1) := by decide +kernel
theorem dX12_soonest_59 : decode cX12_soonest 59 = .ok (.iaload, 1) := by decide +kernel
theorem dX12_soonest_60 : decode cX12_soonest 60 = .ok (.ldc_w 388, 3) := by decide +kernel
theorem dX12_soonest_63 : decode cX12_soonest 63 = .ok (.if_icmp .ne 7, 3) := by decide +kernel
theorem dX12_soonest_66 : decode cX12_soonest 66 = .ok (.iconst (-1), 1) := by decide +kernel
theorem dX12_soonest_67 : decode cX12_soonest 67 = .ok (.goto 9, 3) := by decide +kernel
theorem dX12_soonest_70 : decode cX12_soonest 70 = .ok (.aload_n 0, 1) := by decide +kernel
theorem dX12_soonest_71 : decode cX12_soonest 71 = .ok (.getfield 80, 3) := by decide +kernel
theorem dX12_soonest_74 : decode cX12_soonest 74 = .ok (.iload_n 1, 1) := by decide +kernel
theorem dX12_soonest_75 : decode cX12_soonest 75 = .ok (.iaload, 1) := by decide +kernel
theorem dX12_soonest_76 : decode cX12_soonest 76 = .ok (.ireturn, 1) := by decide +kernel
theorem dX12_soonest_77 : decode cX12_soonest 77 = .ok (.iconst 0, 1) := by decide +kernel
theorem dX12_soonest_78 : decode cX12_soonest 78 = .ok (.istore 5, 2) := by decide +kernel
theorem dX12_soonest_80 : decode cX12_soonest 80 = .ok (.iload_n 1, 1) := by decide +kernel
theorem dX12_soonest_81 : decode cX12_soonest 81 = .ok (.iload_n 2, 1) := by decide +kernel
theorem dX12_soonest_82 : decode cX12_soonest 82 = .ok (.if_icmp .eq 61, 3) := by decide +kernel
theorem dX12_soonest_85 : decode cX12_soonest 85 = .ok (.iload 5, 2) := by decide +kernel
theorem dX12_soonest_87 : decode cX12_soonest 87 = .ok (.aload_n 0, 1) := by decide +kernel
theorem dX12_soonest_88 : decode cX12_soonest 88 = .ok (.getfield 52, 3) := by decide +kernel
theorem dX12_soonest_91 : decode cX12_soonest 91 = .ok (.iconst 1, 1) := by decide +kernel
theorem dX12_soonest_92 : decode cX12_soonest 92 = .ok (.iaload, 1) := by decide +kernel
theorem dX12_soonest_93 : decode cX12_soonest 93 = .ok (.if_icmp .ge 50, 3) := by decide +kernel
theorem dX12_soonest_96 : decode cX12_soonest 96 = .ok (.iload_n 3, 1) := by decide +kernel
theorem dX12_soonest_97 : decode cX12_soonest 97 = .ok (.iload 5, 2) := by decide +kernel
theorem dX12_soonest_99 : decode cX12_soonest 99 = .ok (.invokestatic 249, 3) := by decide +kernel
theorem dX12_soonest_102 : decode cX12_soonest 102 = .ok (.ifCond .eq 35, 3) := by decide +kernel
theorem dX12_soonest_105 : decode cX12_soonest 105 = .ok (.aload_n 0, 1) := by decide +kernel
theorem dX12_soonest_106 : decode cX12_soonest 106 = .ok (.getfield 80, 3) := by decide +kernel
theorem dX12_soonest_109 : decode cX12_soonest 109 = .ok (.aload_n 0, 1) := by decide +kernel
theorem dX12_soonest_110 : decode cX12_soonest 110 = .ok (.iload_n 1, 1) := by decide +kernel
theorem dX12_soonest_111 : decode cX12_soonest 111 = .ok (.iload 5, 2) := by decide +kernel
theorem dX12_soonest_113 : decode cX12_soonest 113 = .ok (.invokevirtual 323, 3) := by decide +kernel
theorem dX12_soonest_116 : decode cX12_soonest 116 = .ok (.iaload, 1) := by decide +kernel
theorem dX12_soonest_117 : decode cX12_soonest 117 = .ok (.aload_n 0, 1) := by decide +kernel
theorem dX12_soonest_118 : decode cX12_soonest 118 = .ok (.iload_n 1, 1) := by decide +kernel
theorem dX12_soonest_119 : decode cX12_soonest 119 = .ok (.iload 5, 2) := by decide +kernel
theorem dX12_soonest_121 : decode cX12_soonest 121 = .ok (.invokevirtual 320, 3) := by decide +kernel
theorem dX12_soonest_124 : decode cX12_soonest 124 = .ok (.iadd, 1) := by decide +kernel
theorem dX12_soonest_125 : decode cX12_soonest 125 = .ok (.aload_n 0, 1) := by decide +kernel
theorem dX12_soonest_126 : decode cX12_soonest 126 = .ok (.getfield 80, 3) := by decide +kernel
theorem dX12_soonest_129 : decode cX12_soonest 129 = .ok (.iload_n 1, 1) := by decide +kernel
theorem dX12_soonest_130 : decode cX12_soonest 130 = .ok (.iaload, 1) := by decide +kernel
theorem dX12_soonest_131 : decode cX12_soonest 131 = .ok (.if_icmp .ne 6, 3) := by decide +kernel
theorem dX12_soonest_134 : decode cX12_soonest 134 = .ok (.iload 5, 2) := by decide +kernel
theorem dX12_soonest_136 : decode cX12_soonest 136 = .ok (.ireturn, 1) := by decide +kernel
theorem dX12_soonest_137 : decode cX12_soonest 137 = .ok (.iinc 5 1, 3) := by decide +kernel
theorem dX12_soonest_140 : decode cX12_soonest 140 = .ok (.goto (-60), 3) := by decide +kernel
theorem dX12_soonest_143 : decode cX12_soonest 143 = .ok (.iconst (-1), 1) := by decide +kernel
theorem dX12_soonest_144 : decode cX12_soonest 144 = .ok (.ireturn, 1) := by decide +kernel
theorem dX12_cheapest_0 : decode cX12_cheapest 0 = .ok (.aload_n 0, 1) := by decide +kernel
theorem dX12_cheapest_1 : decode cX12_cheapest 1 = .ok (.iload_n 1, 1) := by decide +kernel
theorem dX12_cheapest_2 : decode cX12_cheapest 2 = .ok (.iload_n 2, 1) := by decide +kernel
theorem dX12_cheapest_3 : decode cX12_cheapest 3 = .ok (.invokevirtual 392, 3) := by decide +kernel
theorem dX12_cheapest_6 : decode cX12_cheapest 6 = .ok (.ifCond .eq 11, 3) := by decide +kernel
theorem dX12_cheapest_9 : decode cX12_cheapest 9 = .ok (.aload_n 0, 1) := by decide +kernel
theorem dX12_cheapest_10 : decode cX12_cheapest 10 = .ok (.iload_n 3, 1) := by decide +kernel
theorem dX12_cheapest_11 : decode cX12_cheapest 11 = .ok (.invokevirtual 395, 3) := by decide +kernel
theorem dX12_cheapest_14 : decode cX12_cheapest 14 = .ok (.ifCond .ne 5, 3) := by decide +kernel
theorem dX12_cheapest_17 : decode cX12_cheapest 17 = .ok (.iconst (-1), 1) := by decide +kernel
theorem dX12_cheapest_18 : decode cX12_cheapest 18 = .ok (.ireturn, 1) := by decide +kernel
theorem dX12_cheapest_19 : decode cX12_cheapest 19 = .ok (.aload_n 0, 1) := by decide +kernel
theorem dX12_cheapest_20 : decode cX12_cheapest 20 = .ok (.iload_n 2, 1) := by decide +kernel
theorem dX12_cheapest_21 : decode cX12_cheapest 21 = .ok (.iload_n 3, 1) := by decide +kernel
theorem dX12_cheapest_22 : decode cX12_cheapest 22 = .ok (.iconst 1, 1) := by decide +kernel
theorem dX12_cheapest_23 : decode cX12_cheapest 23 = .ok (.iconst 0, 1) := by decide +kernel
theorem dX12_cheapest_24 : decode cX12_cheapest 24 = .ok (.invokevirtual 405, 3) := by decide +kernel
theorem dX12_cheapest_27 : decode cX12_cheapest 27 = .ok (.aload_n 0, 1) := by decide +kernel
theorem dX12_cheapest_28 : decode cX12_cheapest 28 = .ok (.getfield 80, 3) := by decide +kernel
theorem dX12_cheapest_31 : decode cX12_cheapest 31 = .ok (.iload_n 1, 1) := by decide +kernel
theorem dX12_cheapest_32 : decode cX12_cheapest 32 = .ok (.iaload, 1) := by decide +kernel
theorem dX12_cheapest_33 : decode cX12_cheapest 33 = .ok (.ldc_w 388, 3) := by decide +kernel
theorem dX12_cheapest_36 : decode cX12_cheapest 36 = .ok (.if_icmp .ne 7, 3) := by decide +kernel
theorem dX12_cheapest_39 : decode cX12_cheapest 39 = .ok (.iconst (-1), 1) := by decide +kernel
theorem dX12_cheapest_40 : decode cX12_cheapest 40 = .ok (.goto 9, 3) := by decide +kernel
theorem dX12_cheapest_43 : decode cX12_cheapest 43 = .ok (.aload_n 0, 1) := by decide +kernel
theorem dX12_cheapest_44 : decode cX12_cheapest 44 = .ok (.getfield 80, 3) := by decide +kernel
theorem dX12_cheapest_47 : decode cX12_cheapest 47 = .ok (.iload_n 1, 1) := by decide +kernel
theorem dX12_cheapest_48 : decode cX12_cheapest 48 = .ok (.iaload, 1) := by decide +kernel
theorem dX12_cheapest_49 : decode cX12_cheapest 49 = .ok (.ireturn, 1) := by decide +kernel
theorem dX12_reachedFrom_0 : decode cX12_reachedFrom 0 = .ok (.iconst 1, 1) := by decide +kernel
theorem dX12_reachedFrom_1 : decode cX12_reachedFrom 1 = .ok (.iload_n 1, 1) := by decide +kernel
theorem dX12_reachedFrom_2 : decode cX12_reachedFrom 2 = .ok (.ishl, 1) := by decide +kernel
theorem dX12_reachedFrom_3 : decode cX12_reachedFrom 3 = .ok (.istore_n 3, 1) := by decide +kernel
theorem dX12_reachedFrom_4 : decode cX12_reachedFrom 4 = .ok (.iconst 0, 1) := by decide +kernel
theorem dX12_reachedFrom_5 : decode cX12_reachedFrom 5 = .ok (.istore 4, 2) := by decide +kernel
theorem dX12_reachedFrom_7 : decode cX12_reachedFrom 7 = .ok (.iload_n 3, 1) := by decide +kernel
theorem dX12_reachedFrom_8 : decode cX12_reachedFrom 8 = .ok (.iload 4, 2) := by decide +kernel
theorem dX12_reachedFrom_10 : decode cX12_reachedFrom 10 = .ok (.if_icmp .eq 85, 3) := by decide +kernel
theorem dX12_reachedFrom_13 : decode cX12_reachedFrom 13 = .ok (.iload_n 3, 1) := by decide +kernel
theorem dX12_reachedFrom_14 : decode cX12_reachedFrom 14 = .ok (.istore 4, 2) := by decide +kernel
theorem dX12_reachedFrom_16 : decode cX12_reachedFrom 16 = .ok (.iconst 0, 1) := by decide +kernel
theorem dX12_reachedFrom_17 : decode cX12_reachedFrom 17 = .ok (.istore 5, 2) := by decide +kernel
theorem dX12_reachedFrom_19 : decode cX12_reachedFrom 19 = .ok (.iload 5, 2) := by decide +kernel
theorem dX12_reachedFrom_21 : decode cX12_reachedFrom 21 = .ok (.aload_n 0, 1) := by decide +kernel
theorem dX12_reachedFrom_22 : decode cX12_reachedFrom 22 = .ok (.getfield 52, 3) := by decide +kernel
theorem dX12_reachedFrom_25 : decode cX12_reachedFrom 25 = .ok (.iconst 0, 1) := by decide +kernel
theorem dX12_reachedFrom_26 : decode cX12_reachedFrom 26 = .ok (.iaload, 1) := by decide +kernel
theorem dX12_reachedFrom_27 : decode cX12_reachedFrom 27 = .ok (.if_icmp .ge 65, 3) := by decide +kernel
theorem dX12_reachedFrom_30 : decode cX12_reachedFrom 30 = .ok (.iconst 0, 1) := by decide +kernel
theorem dX12_reachedFrom_31 : decode cX12_reachedFrom 31 = .ok (.istore 6, 2) := by decide +kernel
theorem dX12_reachedFrom_33 : decode cX12_reachedFrom 33 = .ok (.iload 6, 2) := by decide +kernel
theorem dX12_reachedFrom_35 : decode cX12_reachedFrom 35 = .ok (.aload_n 0, 1) := by decide +kernel
theorem dX12_reachedFrom_36 : decode cX12_reachedFrom 36 = .ok (.getfield 52, 3) := by decide +kernel
theorem dX12_reachedFrom_39 : decode cX12_reachedFrom 39 = .ok (.iconst 1, 1) := by decide +kernel
theorem dX12_reachedFrom_40 : decode cX12_reachedFrom 40 = .ok (.iaload, 1) := by decide +kernel
theorem dX12_reachedFrom_41 : decode cX12_reachedFrom 41 = .ok (.if_icmp .ge 45, 3) := by decide +kernel
theorem dX12_reachedFrom_44 : decode cX12_reachedFrom 44 = .ok (.iload_n 3, 1) := by decide +kernel
theorem dX12_reachedFrom_45 : decode cX12_reachedFrom 45 = .ok (.iload 4, 2) := by decide +kernel
theorem dX12_reachedFrom_47 : decode cX12_reachedFrom 47 = .ok (.iload 5, 2) := by decide +kernel
theorem dX12_reachedFrom_49 : decode cX12_reachedFrom 49 = .ok (.invokestatic 249, 3) := by decide +kernel
theorem dX12_reachedFrom_52 : decode cX12_reachedFrom 52 = .ok (.ifCond .eq 25, 3) := by decide +kernel
theorem dX12_reachedFrom_55 : decode cX12_reachedFrom 55 = .ok (.iload_n 2, 1) := by decide +kernel
theorem dX12_reachedFrom_56 : decode cX12_reachedFrom 56 = .ok (.iload 6, 2) := by decide +kernel
theorem dX12_reachedFrom_58 : decode cX12_reachedFrom 58 = .ok (.invokestatic 249, 3) := by decide +kernel
theorem dX12_reachedFrom_61 : decode cX12_reachedFrom 61 = .ok (.ifCond .eq 16, 3) := by decide +kernel
theorem dX12_reachedFrom_64 : decode cX12_reachedFrom 64 = .ok (.iconst 1, 1) := by decide +kernel
theorem dX12_reachedFrom_65 : decode cX12_reachedFrom 65 = .ok (.aload_n 0, 1) := by decide +kernel
theorem dX12_reachedFrom_66 : decode cX12_reachedFrom 66 = .ok (.iload 5, 2) := by decide +kernel
theorem dX12_reachedFrom_68 : decode cX12_reachedFrom 68 = .ok (.iload 6, 2) := by decide +kernel
theorem dX12_reachedFrom_70 : decode cX12_reachedFrom 70 = .ok (.invokevirtual 323, 3) := by decide +kernel
theorem dX12_reachedFrom_73 : decode cX12_reachedFrom 73 = .ok (.ishl, 1) := by decide +kernel
theorem dX12_reachedFrom_74 : decode cX12_reachedFrom 74 = .ok (.goto 4, 3) := by decide +kernel
theorem dX12_reachedFrom_77 : decode cX12_reachedFrom 77 = .ok (.iconst 0, 1) := by decide +kernel
theorem dX12_reachedFrom_78 : decode cX12_reachedFrom 78 = .ok (.ior, 1) := by decide +kernel
theorem dX12_reachedFrom_79 : decode cX12_reachedFrom 79 = .ok (.istore_n 3, 1) := by decide +kernel
theorem dX12_reachedFrom_80 : decode cX12_reachedFrom 80 = .ok (.iinc 6 1, 3) := by decide +kernel
theorem dX12_reachedFrom_83 : decode cX12_reachedFrom 83 = .ok (.goto (-50), 3) := by decide +kernel
theorem dX12_reachedFrom_86 : decode cX12_reachedFrom 86 = .ok (.iinc 5 1, 3) := by decide +kernel
theorem dX12_reachedFrom_89 : decode cX12_reachedFrom 89 = .ok (.goto (-70), 3) := by decide +kernel
theorem dX12_reachedFrom_92 : decode cX12_reachedFrom 92 = .ok (.goto (-85), 3) := by decide +kernel
theorem dX12_reachedFrom_95 : decode cX12_reachedFrom 95 = .ok (.iload_n 3, 1) := by decide +kernel
theorem dX12_reachedFrom_96 : decode cX12_reachedFrom 96 = .ok (.ireturn, 1) := by decide +kernel
theorem dX12_reached_0 : decode cX12_reached 0 = .ok (.aload_n 0, 1) := by decide +kernel
theorem dX12_reached_1 : decode cX12_reached 1 = .ok (.iload_n 1, 1) := by decide +kernel
theorem dX12_reached_2 : decode cX12_reached 2 = .ok (.invokevirtual 333, 3) := by decide +kernel
theorem dX12_reached_5 : decode cX12_reached 5 = .ok (.ifCond .eq 20, 3) := by decide +kernel
theorem dX12_reached_8 : decode cX12_reached 8 = .ok (.aload_n 0, 1) := by decide +kernel
theorem dX12_reached_9 : decode cX12_reached 9 = .ok (.iload_n 2, 1) := by decide +kernel
theorem dX12_reached_10 : decode cX12_reached 10 = .ok (.invokevirtual 395, 3) := by decide +kernel
theorem dX12_reached_13 : decode cX12_reached 13 = .ok (.ifCond .eq 12, 3) := by decide +kernel
theorem dX12_reached_16 : decode cX12_reached 16 = .ok (.aload_n 0, 1) := by decide +kernel
theorem dX12_reached_17 : decode cX12_reached 17 = .ok (.iload_n 1, 1) := by decide +kernel
theorem dX12_reached_18 : decode cX12_reached 18 = .ok (.iload_n 2, 1) := by decide +kernel
theorem dX12_reached_19 : decode cX12_reached 19 = .ok (.invokevirtual 409, 3) := by decide +kernel
theorem dX12_reached_22 : decode cX12_reached 22 = .ok (.goto 4, 3) := by decide +kernel
theorem dX12_reached_25 : decode cX12_reached 25 = .ok (.iconst (-1), 1) := by decide +kernel
theorem dX12_reached_26 : decode cX12_reached 26 = .ok (.ireturn, 1) := by decide +kernel
theorem dX12_isFewer_0 : decode cX12_isFewer 0 = .ok (.iload_n 1, 1) := by decide +kernel
theorem dX12_isFewer_1 : decode cX12_isFewer 1 = .ok (.iconst (-1), 1) := by decide +kernel
theorem dX12_isFewer_2 : decode cX12_isFewer 2 = .ok (.if_icmp .eq 14, 3) := by decide +kernel
theorem dX12_isFewer_5 : decode cX12_isFewer 5 = .ok (.iload_n 0, 1) := by decide +kernel
theorem dX12_isFewer_6 : decode cX12_isFewer 6 = .ok (.invokestatic 412, 3) := by decide +kernel
theorem dX12_isFewer_9 : decode cX12_isFewer 9 = .ok (.iload_n 1, 1) := by decide +kernel
theorem dX12_isFewer_10 : decode cX12_isFewer 10 = .ok (.invokestatic 412, 3) := by decide +kernel
theorem dX12_isFewer_13 : decode cX12_isFewer 13 = .ok (.if_icmp .ge 7, 3) := by decide +kernel
theorem dX12_isFewer_16 : decode cX12_isFewer 16 = .ok (.iconst 1, 1) := by decide +kernel
theorem dX12_isFewer_17 : decode cX12_isFewer 17 = .ok (.goto 4, 3) := by decide +kernel
theorem dX12_isFewer_20 : decode cX12_isFewer 20 = .ok (.iconst 0, 1) := by decide +kernel
theorem dX12_isFewer_21 : decode cX12_isFewer 21 = .ok (.ireturn, 1) := by decide +kernel
theorem dX12_lamps_0 : decode cX12_lamps 0 = .ok (.aload_n 0, 1) := by decide +kernel
theorem dX12_lamps_1 : decode cX12_lamps 1 = .ok (.getfield 52, 3) := by decide +kernel
theorem dX12_lamps_4 : decode cX12_lamps 4 = .ok (.iconst 0, 1) := by decide +kernel
theorem dX12_lamps_5 : decode cX12_lamps 5 = .ok (.iaload, 1) := by decide +kernel
theorem dX12_lamps_6 : decode cX12_lamps 6 = .ok (.ifCond .ne 5, 3) := by decide +kernel
theorem dX12_lamps_9 : decode cX12_lamps 9 = .ok (.iconst (-1), 1) := by decide +kernel
theorem dX12_lamps_10 : decode cX12_lamps 10 = .ok (.ireturn, 1) := by decide +kernel
theorem dX12_lamps_11 : decode cX12_lamps 11 = .ok (.iconst (-1), 1) := by decide +kernel
theorem dX12_lamps_12 : decode cX12_lamps 12 = .ok (.istore_n 1, 1) := by decide +kernel
theorem dX12_lamps_13 : decode cX12_lamps 13 = .ok (.iconst 0, 1) := by decide +kernel
theorem dX12_lamps_14 : decode cX12_lamps 14 = .ok (.istore_n 2, 1) := by decide +kernel
theorem dX12_lamps_15 : decode cX12_lamps 15 = .ok (.iload_n 2, 1) := by decide +kernel
theorem dX12_lamps_16 : decode cX12_lamps 16 = .ok (.aload_n 0, 1) := by decide +kernel
theorem dX12_lamps_17 : decode cX12_lamps 17 = .ok (.invokevirtual 385, 3) := by decide +kernel
theorem dX12_lamps_20 : decode cX12_lamps 20 = .ok (.if_icmp .gt 75, 3) := by decide +kernel
theorem dX12_lamps_23 : decode cX12_lamps 23 = .ok (.iload_n 2, 1) := by decide +kernel
theorem dX12_lamps_24 : decode cX12_lamps 24 = .ok (.iload_n 1, 1) := by decide +kernel
theorem dX12_lamps_25 : decode cX12_lamps 25 = .ok (.invokestatic 417, 3) := by decide +kernel
theorem dX12_lamps_28 : decode cX12_lamps 28 = .ok (.istore_n 3, 1) := by decide +kernel
theorem dX12_lamps_29 : decode cX12_lamps 29 = .ok (.iconst 0, 1) := by decide +kernel
theorem dX12_lamps_30 : decode cX12_lamps 30 = .ok (.istore 4, 2) := by decide +kernel
theorem dX12_lamps_32 : decode cX12_lamps 32 = .ok (.iload 4, 2) := by decide +kernel
theorem dX12_lamps_34 : decode cX12_lamps 34 = .ok (.aload_n 0, 1) := by decide +kernel
theorem dX12_lamps_35 : decode cX12_lamps 35 = .ok (.getfield 52, 3) := by decide +kernel
theorem dX12_lamps_38 : decode cX12_lamps 38 = .ok (.iconst 0, 1) := by decide +kernel
theorem dX12_lamps_39 : decode cX12_lamps 39 = .ok (.iaload, 1) := by decide +kernel
theorem dX12_lamps_40 : decode cX12_lamps 40 = .ok (.if_icmp .ge 39, 3) := by decide +kernel
theorem dX12_lamps_43 : decode cX12_lamps 43 = .ok (.iload_n 3, 1) := by decide +kernel
theorem dX12_lamps_44 : decode cX12_lamps 44 = .ok (.ifCond .eq 35, 3) := by decide +kernel
theorem dX12_lamps_47 : decode cX12_lamps 47 = .ok (.aload_n 0, 1) := by decide +kernel
theorem dX12_lamps_48 : decode cX12_lamps 48 = .ok (.iload 4, 2) := by decide +kernel
theorem dX12_lamps_50 : decode cX12_lamps 50 = .ok (.iload_n 2, 1) := by decide +kernel
theorem dX12_lamps_51 : decode cX12_lamps 51 = .ok (.invokevirtual 409, 3) := by decide +kernel
theorem dX12_lamps_54 : decode cX12_lamps 54 = .ok (.iconst 1, 1) := by decide +kernel
theorem dX12_lamps_55 : decode cX12_lamps 55 = .ok (.aload_n 0, 1) := by decide +kernel
theorem dX12_lamps_56 : decode cX12_lamps 56 = .ok (.getfield 52, 3) := by decide +kernel
theorem dX12_lamps_59 : decode cX12_lamps 59 = .ok (.iconst 0, 1) := by decide +kernel
theorem dX12_lamps_60 : decode cX12_lamps 60 = .ok (.iaload, 1) := by decide +kernel
theorem dX12_lamps_61 : decode cX12_lamps 61 = .ok (.ishl, 1) := by decide +kernel
theorem dX12_lamps_62 : decode cX12_lamps 62 = .ok (.iconst 1, 1) := by decide +kernel
theorem dX12_lamps_63 : decode cX12_lamps 63 = .ok (.isub, 1) := by decide +kernel
theorem dX12_lamps_64 : decode cX12_lamps 64 = .ok (.if_icmp .ne 7, 3) := by decide +kernel
theorem dX12_lamps_67 : decode cX12_lamps 67 = .ok (.iconst 1, 1) := by decide +kernel
theorem dX12_lamps_68 : decode cX12_lamps 68 = .ok (.goto 4, 3) := by decide +kernel
theorem dX12_lamps_71 : decode cX12_lamps 71 = .ok (.iconst 0, 1) := by decide +kernel
theorem dX12_lamps_72 : decode cX12_lamps 72 = .ok (.istore_n 3, 1) := by decide +kernel
theorem dX12_lamps_73 : decode cX12_lamps 73 = .ok (.iinc 4 1, 3) := by decide +kernel
theorem dX12_lamps_76 : decode cX12_lamps 76 = .ok (.goto (-44), 3) := by decide +kernel
theorem dX12_lamps_79 : decode cX12_lamps 79 = .ok (.iload_n 3, 1) := by decide +kernel
theorem dX12_lamps_80 : decode cX12_lamps 80 = .ok (.ifCond .eq 7, 3) := by decide +kernel
theorem dX12_lamps_83 : decode cX12_lamps 83 = .ok (.iload_n 2, 1) := by decide +kernel
theorem dX12_lamps_84 : decode cX12_lamps 84 = .ok (.goto 4, 3) := by decide +kernel
theorem dX12_lamps_87 : decode cX12_lamps 87 = .ok (.iload_n 1, 1) := by decide +kernel
theorem dX12_lamps_88 : decode cX12_lamps 88 = .ok (.istore_n 1, 1) := by decide +kernel
theorem dX12_lamps_89 : decode cX12_lamps 89 = .ok (.iinc 2 1, 3) := by decide +kernel
theorem dX12_lamps_92 : decode cX12_lamps 92 = .ok (.goto (-77), 3) := by decide +kernel
theorem dX12_lamps_95 : decode cX12_lamps 95 = .ok (.iload_n 1, 1) := by decide +kernel
theorem dX12_lamps_96 : decode cX12_lamps 96 = .ok (.ireturn, 1) := by decide +kernel
theorem dX12_layOut_0 : decode cX12_layOut 0 = .ok (.aload_n 0, 1) := by decide +kernel
theorem dX12_layOut_1 : decode cX12_layOut 1 = .ok (.getfield 55, 3) := by decide +kernel
theorem dX12_layOut_4 : decode cX12_layOut 4 = .ok (.iconst 4, 1) := by decide +kernel
theorem dX12_layOut_5 : decode cX12_layOut 5 = .ok (.iload_n 1, 1) := by decide +kernel
theorem dX12_layOut_6 : decode cX12_layOut 6 = .ok (.imul, 1) := by decide +kernel
theorem dX12_layOut_7 : decode cX12_layOut 7 = .ok (.iconst 2, 1) := by decide +kernel
theorem dX12_layOut_8 : decode cX12_layOut 8 = .ok (.iadd, 1) := by decide +kernel
theorem dX12_layOut_9 : decode cX12_layOut 9 = .ok (.iaload, 1) := by decide +kernel
theorem dX12_layOut_10 : decode cX12_layOut 10 = .ok (.iload_n 2, 1) := by decide +kernel
theorem dX12_layOut_11 : decode cX12_layOut 11 = .ok (.iadd, 1) := by decide +kernel
theorem dX12_layOut_12 : decode cX12_layOut 12 = .ok (.istore_n 3, 1) := by decide +kernel
theorem dX12_layOut_13 : decode cX12_layOut 13 = .ok (.iload_n 3, 1) := by decide +kernel
theorem dX12_layOut_14 : decode cX12_layOut 14 = .ok (.istore 4, 2) := by decide +kernel
theorem dX12_layOut_16 : decode cX12_layOut 16 = .ok (.aload_n 0, 1) := by decide +kernel
theorem dX12_layOut_17 : decode cX12_layOut 17 = .ok (.getfield 55, 3) := by decide +kernel
theorem dX12_layOut_20 : decode cX12_layOut 20 = .ok (.iconst 4, 1) := by decide +kernel
theorem dX12_layOut_21 : decode cX12_layOut 21 = .ok (.iload_n 1, 1) := by decide +kernel
theorem dX12_layOut_22 : decode cX12_layOut 22 = .ok (.imul, 1) := by decide +kernel
theorem dX12_layOut_23 : decode cX12_layOut 23 = .ok (.iaload, 1) := by decide +kernel
theorem dX12_layOut_24 : decode cX12_layOut 24 = .ok (.istore 5, 2) := by decide +kernel
theorem dX12_layOut_26 : decode cX12_layOut 26 = .ok (.iconst 0, 1) := by decide +kernel
theorem dX12_layOut_27 : decode cX12_layOut 27 = .ok (.istore 6, 2) := by decide +kernel
theorem dX12_layOut_29 : decode cX12_layOut 29 = .ok (.iload 6, 2) := by decide +kernel
theorem dX12_layOut_31 : decode cX12_layOut 31 = .ok (.iconst 3, 1) := by decide +kernel
theorem dX12_layOut_32 : decode cX12_layOut 32 = .ok (.if_icmp .ge 130, 3) := by decide +kernel
theorem dX12_layOut_35 : decode cX12_layOut 35 = .ok (.iconst 3, 1) := by decide +kernel
theorem dX12_layOut_36 : decode cX12_layOut 36 = .ok (.iconst 5, 1) := by decide +kernel
theorem dX12_layOut_37 : decode cX12_layOut 37 = .ok (.iload_n 1, 1) := by decide +kernel
theorem dX12_layOut_38 : decode cX12_layOut 38 = .ok (.imul, 1) := by decide +kernel
theorem dX12_layOut_39 : decode cX12_layOut 39 = .ok (.iload_n 2, 1) := by decide +kernel
theorem dX12_layOut_40 : decode cX12_layOut 40 = .ok (.iadd, 1) := by decide +kernel
theorem dX12_layOut_41 : decode cX12_layOut 41 = .ok (.imul, 1) := by decide +kernel
theorem dX12_layOut_42 : decode cX12_layOut 42 = .ok (.iload 6, 2) := by decide +kernel
theorem dX12_layOut_44 : decode cX12_layOut 44 = .ok (.iadd, 1) := by decide +kernel
theorem dX12_layOut_45 : decode cX12_layOut 45 = .ok (.istore 7, 2) := by decide +kernel
theorem dX12_layOut_47 : decode cX12_layOut 47 = .ok (.aload_n 0, 1) := by decide +kernel
theorem dX12_layOut_48 : decode cX12_layOut 48 = .ok (.getfield 83, 3) := by decide +kernel
theorem dX12_layOut_51 : decode cX12_layOut 51 = .ok (.iload 7, 2) := by decide +kernel
theorem dX12_layOut_53 : decode cX12_layOut 53 = .ok (.iconst (-1), 1) := by decide +kernel
theorem dX12_layOut_54 : decode cX12_layOut 54 = .ok (.iastore, 1) := by decide +kernel
theorem dX12_layOut_55 : decode cX12_layOut 55 = .ok (.iload 6, 2) := by decide +kernel
theorem dX12_layOut_57 : decode cX12_layOut 57 = .ok (.aload_n 0, 1) := by decide +kernel
theorem dX12_layOut_58 : decode cX12_layOut 58 = .ok (.getfield 55, 3) := by decide +kernel
theorem dX12_layOut_61 : decode cX12_layOut 61 = .ok (.iconst 4, 1) := by decide +kernel
theorem dX12_layOut_62 : decode cX12_layOut 62 = .ok (.iload_n 1, 1) := by decide +kernel
theorem dX12_layOut_63 : decode cX12_layOut 63 = .ok (.imul, 1) := by decide +kernel
theorem dX12_layOut_64 : decode cX12_layOut 64 = .ok (.iconst 3, 1) := by decide +kernel
theorem dX12_layOut_65 : decode cX12_layOut 65 = .ok (.iadd, 1) := by decide +kernel
theorem dX12_layOut_66 : decode cX12_layOut 66 = .ok (.iaload, 1) := by decide +kernel
theorem dX12_layOut_67 : decode cX12_layOut 67 = .ok (.if_icmp .ge 89, 3) := by decide +kernel
theorem dX12_layOut_70 : decode cX12_layOut 70 = .ok (.aload_n 0, 1) := by decide +kernel
theorem dX12_layOut_71 : decode cX12_layOut 71 = .ok (.aload_n 0, 1) := by decide +kernel
theorem dX12_layOut_72 : decode cX12_layOut 72 = .ok (.getfield 55, 3) := by decide +kernel
theorem dX12_layOut_75 : decode cX12_layOut 75 = .ok (.iconst 4, 1) := by decide +kernel
theorem dX12_layOut_76 : decode cX12_layOut 76 = .ok (.iload_n 1, 1) := by decide +kernel
theorem dX12_layOut_77 : decode cX12_layOut 77 = .ok (.imul, 1) := by decide +kernel
theorem dX12_layOut_78 : decode cX12_layOut 78 = .ok (.iconst 1, 1) := by decide +kernel
theorem dX12_layOut_79 : decode cX12_layOut 79 = .ok (.iadd, 1) := by decide +kernel
theorem dX12_layOut_80 : decode cX12_layOut 80 = .ok (.iaload, 1) := by decide +kernel
theorem dX12_layOut_81 : decode cX12_layOut 81 = .ok (.iload 4, 2) := by decide +kernel
theorem dX12_layOut_83 : decode cX12_layOut 83 = .ok (.iload_n 3, 1) := by decide +kernel
theorem dX12_layOut_84 : decode cX12_layOut 84 = .ok (.isub, 1) := by decide +kernel
theorem dX12_layOut_85 : decode cX12_layOut 85 = .ok (.invokevirtual 346, 3) := by decide +kernel
theorem dX12_layOut_88 : decode cX12_layOut 88 = .ok (.istore 8, 2) := by decide +kernel
theorem dX12_layOut_90 : decode cX12_layOut 90 = .ok (.iload 4, 2) := by decide +kernel
theorem dX12_layOut_92 : decode cX12_layOut 92 = .ok (.aload_n 0, 1) := by decide +kernel
theorem dX12_layOut_93 : decode cX12_layOut 93 = .ok (.iload 5, 2) := by decide +kernel
theorem dX12_layOut_95 : decode cX12_layOut 95 = .ok (.iload 8, 2) := by decide +kernel
theorem dX12_layOut_97 : decode cX12_layOut 97 = .ok (.invokevirtual 320, 3) := by decide +kernel
theorem dX12_layOut_100 : decode cX12_layOut 100 = .ok (.iadd, 1) := by decide +kernel
theorem dX12_layOut_101 : decode cX12_layOut 101 = .ok (.istore 4, 2) := by decide +kernel
theorem dX12_layOut_103 : decode cX12_layOut 103 = .ok (.aload_n 0, 1) := by decide +kernel
theorem dX12_layOut_104 : decode cX12_layOut 104 = .ok (.iload 5, 2) := by decide +kernel
theorem dX12_layOut_106 : decode cX12_layOut 106 = .ok (.iload 8, 2) := by decide +kernel
theorem dX12_layOut_108 : decode cX12_layOut 108 = .ok (.invokevirtual 323, 3) := by decide +kernel
theorem dX12_layOut_111 : decode cX12_layOut 111 = .ok (.istore 5, 2) := by decide +kernel
theorem dX12_layOut_113 : decode cX12_layOut 113 = .ok (.aload_n 0, 1) := by decide +kernel
theorem dX12_layOut_114 : decode cX12_layOut 114 = .ok (.getfield 83, 3) := by decide +kernel
theorem dX12_layOut_117 : decode cX12_layOut 117 = .ok (.iload 7, 2) := by decide +kernel
theorem dX12_layOut_119 : decode cX12_layOut 119 = .ok (.iload 4, 2) := by decide +kernel
theorem dX12_layOut_121 : decode cX12_layOut 121 = .ok (.iastore, 1) := by decide +kernel
theorem dX12_layOut_122 : decode cX12_layOut 122 = .ok (.aload_n 0, 1) := by decide +kernel
theorem dX12_layOut_123 : decode cX12_layOut 123 = .ok (.getfield 86, 3) := by decide +kernel
theorem dX12_layOut_126 : decode cX12_layOut 126 = .ok (.iload 7, 2) := by decide +kernel
theorem dX12_layOut_128 : decode cX12_layOut 128 = .ok (.iload 5, 2) := by decide +kernel
theorem dX12_layOut_130 : decode cX12_layOut 130 = .ok (.iastore, 1) := by decide +kernel
theorem dX12_layOut_131 : decode cX12_layOut 131 = .ok (.aload_n 0, 1) := by decide +kernel
theorem dX12_layOut_132 : decode cX12_layOut 132 = .ok (.getfield 89, 3) := by decide +kernel
theorem dX12_layOut_135 : decode cX12_layOut 135 = .ok (.iload 7, 2) := by decide +kernel
theorem dX12_layOut_137 : decode cX12_layOut 137 = .ok (.aload_n 0, 1) := by decide +kernel
theorem dX12_layOut_138 : decode cX12_layOut 138 = .ok (.aload_n 0, 1) := by decide +kernel
theorem dX12_layOut_139 : decode cX12_layOut 139 = .ok (.getfield 55, 3) := by decide +kernel
theorem dX12_layOut_142 : decode cX12_layOut 142 = .ok (.iconst 4, 1) := by decide +kernel
theorem dX12_layOut_143 : decode cX12_layOut 143 = .ok (.iload_n 1, 1) := by decide +kernel
theorem dX12_layOut_144 : decode cX12_layOut 144 = .ok (.imul, 1) := by decide +kernel
theorem dX12_layOut_145 : decode cX12_layOut 145 = .ok (.iconst 1, 1) := by decide +kernel
theorem dX12_layOut_146 : decode cX12_layOut 146 = .ok (.iadd, 1) := by decide +kernel
theorem dX12_layOut_147 : decode cX12_layOut 147 = .ok (.iaload, 1) := by decide +kernel
theorem dX12_layOut_148 : decode cX12_layOut 148 = .ok (.iload 4, 2) := by decide +kernel
theorem dX12_layOut_150 : decode cX12_layOut 150 = .ok (.iload_n 3, 1) := by decide +kernel
theorem dX12_layOut_151 : decode cX12_layOut 151 = .ok (.isub, 1) := by decide +kernel
theorem dX12_layOut_152 : decode cX12_layOut 152 = .ok (.invokevirtual 346, 3) := by decide +kernel
theorem dX12_layOut_155 : decode cX12_layOut 155 = .ok (.iastore, 1) := by decide +kernel
theorem dX12_layOut_156 : decode cX12_layOut 156 = .ok (.iinc 6 1, 3) := by decide +kernel
theorem dX12_layOut_159 : decode cX12_layOut 159 = .ok (.goto (-130), 3) := by decide +kernel
theorem dX12_layOut_162 : decode cX12_layOut 162 = .ok (.return_, 1) := by decide +kernel
theorem dX12_layOuts_0 : decode cX12_layOuts 0 = .ok (.iconst 0, 1) := by decide +kernel
theorem dX12_layOuts_1 : decode cX12_layOuts 1 = .ok (.istore_n 1, 1) := by decide +kernel
theorem dX12_layOuts_2 : decode cX12_layOuts 2 = .ok (.iload_n 1, 1) := by decide +kernel
theorem dX12_layOuts_3 : decode cX12_layOuts 3 = .ok (.aload_n 0, 1) := by decide +kernel
theorem dX12_layOuts_4 : decode cX12_layOuts 4 = .ok (.getfield 294, 3) := by decide +kernel
theorem dX12_layOuts_7 : decode cX12_layOuts 7 = .ok (.if_icmp .ge 28, 3) := by decide +kernel
theorem dX12_layOuts_10 : decode cX12_layOuts 10 = .ok (.iconst 0, 1) := by decide +kernel
theorem dX12_layOuts_11 : decode cX12_layOuts 11 = .ok (.istore_n 2, 1) := by decide +kernel
theorem dX12_layOuts_12 : decode cX12_layOuts 12 = .ok (.iload_n 2, 1) := by decide +kernel
theorem dX12_layOuts_13 : decode cX12_layOuts 13 = .ok (.iconst 5, 1) := by decide +kernel
theorem dX12_layOuts_14 : decode cX12_layOuts 14 = .ok (.if_icmp .ge 15, 3) := by decide +kernel
theorem dX12_layOuts_17 : decode cX12_layOuts 17 = .ok (.aload_n 0, 1) := by decide +kernel
theorem dX12_layOuts_18 : decode cX12_layOuts 18 = .ok (.iload_n 1, 1) := by decide +kernel
theorem dX12_layOuts_19 : decode cX12_layOuts 19 = .ok (.iload_n 2, 1) := by decide +kernel
theorem dX12_layOuts_20 : decode cX12_layOuts 20 = .ok (.invokevirtual 420, 3) := by decide +kernel
theorem dX12_layOuts_23 : decode cX12_layOuts 23 = .ok (.iinc 2 1, 3) := by decide +kernel
theorem dX12_layOuts_26 : decode cX12_layOuts 26 = .ok (.goto (-14), 3) := by decide +kernel
theorem dX12_layOuts_29 : decode cX12_layOuts 29 = .ok (.iinc 1 1, 3) := by decide +kernel
theorem dX12_layOuts_32 : decode cX12_layOuts 32 = .ok (.goto (-30), 3) := by decide +kernel
theorem dX12_layOuts_35 : decode cX12_layOuts 35 = .ok (.return_, 1) := by decide +kernel
theorem dX12_clashesOf_0 : decode cX12_clashesOf 0 = .ok (.iconst 0, 1) := by decide +kernel
theorem dX12_clashesOf_1 : decode cX12_clashesOf 1 = .ok (.istore 5, 2) := by decide +kernel
theorem dX12_clashesOf_3 : decode cX12_clashesOf 3 = .ok (.iconst 0, 1) := by decide +kernel
theorem dX12_clashesOf_4 : decode cX12_clashesOf 4 = .ok (.istore 6, 2) := by decide +kernel
theorem dX12_clashesOf_6 : decode cX12_clashesOf 6 = .ok (.iload 6, 2) := by decide +kernel
theorem dX12_clashesOf_8 : decode cX12_clashesOf 8 = .ok (.iconst 3, 1) := by decide +kernel
theorem dX12_clashesOf_9 : decode cX12_clashesOf 9 = .ok (.if_icmp .ge 121, 3) := by decide +kernel
theorem dX12_clashesOf_12 : decode cX12_clashesOf 12 = .ok (.iconst 0, 1) := by decide +kernel
theorem dX12_clashesOf_13 : decode cX12_clashesOf 13 = .ok (.istore 7, 2) := by decide +kernel
theorem dX12_clashesOf_15 : decode cX12_clashesOf 15 = .ok (.iload 7, 2) := by decide +kernel
theorem dX12_clashesOf_17 : decode cX12_clashesOf 17 = .ok (.iconst 3, 1) := by decide +kernel
theorem dX12_clashesOf_18 : decode cX12_clashesOf 18 = .ok (.if_icmp .ge 106, 3) := by decide +kernel
theorem dX12_clashesOf_21 : decode cX12_clashesOf 21 = .ok (.iconst 3, 1) := by decide +kernel
theorem dX12_clashesOf_22 : decode cX12_clashesOf 22 = .ok (.iconst 5, 1) := by decide +kernel
theorem dX12_clashesOf_23 : decode cX12_clashesOf 23 = .ok (.iload_n 1, 1) := by decide +kernel
theorem dX12_clashesOf_24 : decode cX12_clashesOf 24 = .ok (.imul, 1) := by decide +kernel
theorem dX12_clashesOf_25 : decode cX12_clashesOf 25 = .ok (.iload_n 2, 1) := by decide +kernel
theorem dX12_clashesOf_26 : decode cX12_clashesOf 26 = .ok (.iadd, 1) := by decide +kernel
theorem dX12_clashesOf_27 : decode cX12_clashesOf 27 = .ok (.imul, 1) := by decide +kernel
theorem dX12_clashesOf_28 : decode cX12_clashesOf 28 = .ok (.iload 6, 2) := by decide +kernel
theorem dX12_clashesOf_30 : decode cX12_clashesOf 30 = .ok (.iadd, 1) := by decide +kernel
theorem dX12_clashesOf_31 : decode cX12_clashesOf 31 = .ok (.istore 8, 2) := by decide +kernel
theorem dX12_clashesOf_33 : decode cX12_clashesOf 33 = .ok (.iconst 3, 1) := by decide +kernel
theorem dX12_clashesOf_34 : decode cX12_clashesOf 34 = .ok (.iconst 5, 1) := by decide +kernel
theorem dX12_clashesOf_35 : decode cX12_clashesOf 35 = .ok (.iload_n 3, 1) := by decide +kernel
theorem dX12_clashesOf_36 : decode cX12_clashesOf 36 = .ok (.imul, 1) := by decide +kernel
theorem dX12_clashesOf_37 : decode cX12_clashesOf 37 = .ok (.iload 4, 2) := by decide +kernel
theorem dX12_clashesOf_39 : decode cX12_clashesOf 39 = .ok (.iadd, 1) := by decide +kernel
theorem dX12_clashesOf_40 : decode cX12_clashesOf 40 = .ok (.imul, 1) := by decide +kernel
theorem dX12_clashesOf_41 : decode cX12_clashesOf 41 = .ok (.iload 7, 2) := by decide +kernel
theorem dX12_clashesOf_43 : decode cX12_clashesOf 43 = .ok (.iadd, 1) := by decide +kernel
theorem dX12_clashesOf_44 : decode cX12_clashesOf 44 = .ok (.istore 9, 2) := by decide +kernel
theorem dX12_clashesOf_46 : decode cX12_clashesOf 46 = .ok (.iload 5, 2) := by decide +kernel
theorem dX12_clashesOf_48 : decode cX12_clashesOf 48 = .ok (.aload_n 0, 1) := by decide +kernel
theorem dX12_clashesOf_49 : decode cX12_clashesOf 49 = .ok (.getfield 83, 3) := by decide +kernel
theorem dX12_clashesOf_52 : decode cX12_clashesOf 52 = .ok (.iload 8, 2) := by decide +kernel
theorem dX12_clashesOf_54 : decode cX12_clashesOf 54 = .ok (.iaload, 1) := by decide +kernel
theorem dX12_clashesOf_55 : decode cX12_clashesOf 55 = .ok (.iconst (-1), 1) := by decide +kernel
theorem dX12_clashesOf_56 : decode cX12_clashesOf 56 = .ok (.if_icmp .eq 58, 3) := by decide +kernel
theorem dX12_clashesOf_59 : decode cX12_clashesOf 59 = .ok (.aload_n 0, 1) := by decide +kernel
theorem dX12_clashesOf_60 : decode cX12_clashesOf 60 = .ok (.getfield 83, 3) := by decide +kernel
theorem dX12_clashesOf_63 : decode cX12_clashesOf 63 = .ok (.iload 8, 2) := by decide +kernel
theorem dX12_clashesOf_65 : decode cX12_clashesOf 65 = .ok (.iaload, 1) := by decide +kernel
theorem dX12_clashesOf_66 : decode cX12_clashesOf 66 = .ok (.aload_n 0, 1) := by decide +kernel
theorem dX12_clashesOf_67 : decode cX12_clashesOf 67 = .ok (.getfield 83, 3) := by decide +kernel
theorem dX12_clashesOf_70 : decode cX12_clashesOf 70 = .ok (.iload 9, 2) := by decide +kernel
theorem dX12_clashesOf_72 : decode cX12_clashesOf 72 = .ok (.iaload, 1) := by decide +kernel
theorem dX12_clashesOf_73 : decode cX12_clashesOf 73 = .ok (.if_icmp .ne 41, 3) := by decide +kernel
theorem dX12_clashesOf_76 : decode cX12_clashesOf 76 = .ok (.aload_n 0, 1) := by decide +kernel
theorem dX12_clashesOf_77 : decode cX12_clashesOf 77 = .ok (.getfield 86, 3) := by decide +kernel
theorem dX12_clashesOf_80 : decode cX12_clashesOf 80 = .ok (.iload 8, 2) := by decide +kernel
theorem dX12_clashesOf_82 : decode cX12_clashesOf 82 = .ok (.iaload, 1) := by decide +kernel
theorem dX12_clashesOf_83 : decode cX12_clashesOf 83 = .ok (.aload_n 0, 1) := by decide +kernel
theorem dX12_clashesOf_84 : decode cX12_clashesOf 84 = .ok (.getfield 86, 3) := by decide +kernel
theorem dX12_clashesOf_87 : decode cX12_clashesOf 87 = .ok (.iload 9, 2) := by decide +kernel
theorem dX12_clashesOf_89 : decode cX12_clashesOf 89 = .ok (.iaload, 1) := by decide +kernel
theorem dX12_clashesOf_90 : decode cX12_clashesOf 90 = .ok (.if_icmp .ne 24, 3) := by decide +kernel
theorem dX12_clashesOf_93 : decode cX12_clashesOf 93 = .ok (.aload_n 0, 1) := by decide +kernel
theorem dX12_clashesOf_94 : decode cX12_clashesOf 94 = .ok (.getfield 89, 3) := by decide +kernel
theorem dX12_clashesOf_97 : decode cX12_clashesOf 97 = .ok (.iload 8, 2) := by decide +kernel
theorem dX12_clashesOf_99 : decode cX12_clashesOf 99 = .ok (.iaload, 1) := by decide +kernel
theorem dX12_clashesOf_100 : decode cX12_clashesOf 100 = .ok (.aload_n 0, 1) := by decide +kernel
theorem dX12_clashesOf_101 : decode cX12_clashesOf 101 = .ok (.getfield 89, 3) := by decide +kernel
theorem dX12_clashesOf_104 : decode cX12_clashesOf 104 = .ok (.iload 9, 2) := by decide +kernel
theorem dX12_clashesOf_106 : decode cX12_clashesOf 106 = .ok (.iaload, 1) := by decide +kernel
theorem dX12_clashesOf_107 : decode cX12_clashesOf 107 = .ok (.if_icmp .ne 7, 3) := by decide +kernel
theorem dX12_clashesOf_110 : decode cX12_clashesOf 110 = .ok (.iconst 1, 1) := by decide +kernel
theorem dX12_clashesOf_111 : decode cX12_clashesOf 111 = .ok (.goto 4, 3) := by decide +kernel
theorem dX12_clashesOf_114 : decode cX12_clashesOf 114 = .ok (.iconst 0, 1) := by decide +kernel
theorem dX12_clashesOf_115 : decode cX12_clashesOf 115 = .ok (.iadd, 1) := by decide +kernel
theorem dX12_clashesOf_116 : decode cX12_clashesOf 116 = .ok (.istore 5, 2) := by decide +kernel
theorem dX12_clashesOf_118 : decode cX12_clashesOf 118 = .ok (.iinc 7 1, 3) := by decide +kernel
theorem dX12_clashesOf_121 : decode cX12_clashesOf 121 = .ok (.goto (-106), 3) := by decide +kernel
theorem dX12_clashesOf_124 : decode cX12_clashesOf 124 = .ok (.iinc 6 1, 3) := by decide +kernel
theorem dX12_clashesOf_127 : decode cX12_clashesOf 127 = .ok (.goto (-121), 3) := by decide +kernel
theorem dX12_clashesOf_130 : decode cX12_clashesOf 130 = .ok (.iload 5, 2) := by decide +kernel
theorem dX12_clashesOf_132 : decode cX12_clashesOf 132 = .ok (.ireturn, 1) := by decide +kernel
theorem dX12_tryTable_0 : decode cX12_tryTable 0 = .ok (.aload_n 0, 1) := by decide +kernel
theorem dX12_tryTable_1 : decode cX12_tryTable 1 = .ok (.getfield 423, 3) := by decide +kernel
theorem dX12_tryTable_4 : decode cX12_tryTable 4 = .ok (.iconst (-1), 1) := by decide +kernel
theorem dX12_tryTable_5 : decode cX12_tryTable 5 = .ok (.if_icmp .eq 12, 3) := by decide +kernel
theorem dX12_tryTable_8 : decode cX12_tryTable 8 = .ok (.iload_n 2, 1) := by decide +kernel
theorem dX12_tryTable_9 : decode cX12_tryTable 9 = .ok (.aload_n 0, 1) := by decide +kernel
theorem dX12_tryTable_10 : decode cX12_tryTable 10 = .ok (.getfield 423, 3) := by decide +kernel
theorem dX12_tryTable_13 : decode cX12_tryTable 13 = .ok (.if_icmp .lt 4, 3) := by decide +kernel
theorem dX12_tryTable_16 : decode cX12_tryTable 16 = .ok (.return_, 1) := by decide +kernel
theorem dX12_tryTable_17 : decode cX12_tryTable 17 = .ok (.iload_n 1, 1) := by decide +kernel
theorem dX12_tryTable_18 : decode cX12_tryTable 18 = .ok (.aload_n 0, 1) := by decide +kernel
theorem dX12_tryTable_19 : decode cX12_tryTable 19 = .ok (.getfield 294, 3) := by decide +kernel
theorem dX12_tryTable_22 : decode cX12_tryTable 22 = .ok (.if_icmp .ne 14, 3) := by decide +kernel
theorem dX12_tryTable_25 : decode cX12_tryTable 25 = .ok (.aload_n 0, 1) := by decide +kernel
theorem dX12_tryTable_26 : decode cX12_tryTable 26 = .ok (.iload_n 2, 1) := by decide +kernel
theorem dX12_tryTable_27 : decode cX12_tryTable 27 = .ok (.putfield 423, 3) := by decide +kernel
theorem dX12_tryTable_30 : decode cX12_tryTable 30 = .ok (.aload_n 0, 1) := by decide +kernel
theorem dX12_tryTable_31 : decode cX12_tryTable 31 = .ok (.iload_n 3, 1) := by decide +kernel
theorem dX12_tryTable_32 : decode cX12_tryTable 32 = .ok (.putfield 426, 3) := by decide +kernel
theorem dX12_tryTable_35 : decode cX12_tryTable 35 = .ok (.return_, 1) := by decide +kernel
theorem dX12_tryTable_36 : decode cX12_tryTable 36 = .ok (.iconst 0, 1) := by decide +kernel
theorem dX12_tryTable_37 : decode cX12_tryTable 37 = .ok (.istore 4, 2) := by decide +kernel
theorem dX12_tryTable_39 : decode cX12_tryTable 39 = .ok (.iload 4, 2) := by decide +kernel
theorem dX12_tryTable_41 : decode cX12_tryTable 41 = .ok (.iconst 5, 1) := by decide +kernel
theorem dX12_tryTable_42 : decode cX12_tryTable 42 = .ok (.if_icmp .ge 89, 3) := by decide +kernel
theorem dX12_tryTable_45 : decode cX12_tryTable 45 = .ok (.iconst 1, 1) := by decide +kernel
theorem dX12_tryTable_46 : decode cX12_tryTable 46 = .ok (.istore 5, 2) := by decide +kernel
theorem dX12_tryTable_48 : decode cX12_tryTable 48 = .ok (.iconst 0, 1) := by decide +kernel
theorem dX12_tryTable_49 : decode cX12_tryTable 49 = .ok (.istore 6, 2) := by decide +kernel
theorem dX12_tryTable_51 : decode cX12_tryTable 51 = .ok (.iload 6, 2) := by decide +kernel
theorem dX12_tryTable_53 : decode cX12_tryTable 53 = .ok (.iload_n 1, 1) := by decide +kernel
theorem dX12_tryTable_54 : decode cX12_tryTable 54 = .ok (.if_icmp .ge 40, 3) := by decide +kernel
theorem dX12_tryTable_57 : decode cX12_tryTable 57 = .ok (.iload 5, 2) := by decide +kernel
theorem dX12_tryTable_59 : decode cX12_tryTable 59 = .ok (.ifCond .eq 35, 3) := by decide +kernel
theorem dX12_tryTable_62 : decode cX12_tryTable 62 = .ok (.aload_n 0, 1) := by decide +kernel
theorem dX12_tryTable_63 : decode cX12_tryTable 63 = .ok (.iload 6, 2) := by decide +kernel
theorem dX12_tryTable_65 : decode cX12_tryTable 65 = .ok (.aload_n 0, 1) := by decide +kernel
theorem dX12_tryTable_66 : decode cX12_tryTable 66 = .ok (.getfield 92, 3) := by decide +kernel
theorem dX12_tryTable_69 : decode cX12_tryTable 69 = .ok (.iload 6, 2) := by decide +kernel
theorem dX12_tryTable_71 : decode cX12_tryTable 71 = .ok (.iaload, 1) := by decide +kernel
theorem dX12_tryTable_72 : decode cX12_tryTable 72 = .ok (.iload_n 1, 1) := by decide +kernel
theorem dX12_tryTable_73 : decode cX12_tryTable 73 = .ok (.iload 4, 2) := by decide +kernel
theorem dX12_tryTable_75 : decode cX12_tryTable 75 = .ok (.invokevirtual 429, 3) := by decide +kernel
theorem dX12_tryTable_78 : decode cX12_tryTable 78 = .ok (.ifCond .ne 7, 3) := by decide +kernel
theorem dX12_tryTable_81 : decode cX12_tryTable 81 = .ok (.iconst 1, 1) := by decide +kernel
theorem dX12_tryTable_82 : decode cX12_tryTable 82 = .ok (.goto 4, 3) := by decide +kernel
theorem dX12_tryTable_85 : decode cX12_tryTable 85 = .ok (.iconst 0, 1) := by decide +kernel
theorem dX12_tryTable_86 : decode cX12_tryTable 86 = .ok (.istore 5, 2) := by decide +kernel
theorem dX12_tryTable_88 : decode cX12_tryTable 88 = .ok (.iinc 6 1, 3) := by decide +kernel
theorem dX12_tryTable_91 : decode cX12_tryTable 91 = .ok (.goto (-40), 3) := by decide +kernel
theorem dX12_tryTable_94 : decode cX12_tryTable 94 = .ok (.iload 5, 2) := by decide +kernel
theorem dX12_tryTable_96 : decode cX12_tryTable 96 = .ok (.ifCond .eq 29, 3) := by decide +kernel
theorem dX12_tryTable_99 : decode cX12_tryTable 99 = .ok (.aload_n 0, 1) := by decide +kernel
theorem dX12_tryTable_100 : decode cX12_tryTable 100 = .ok (.getfield 92, 3) := by decide +kernel
theorem dX12_tryTable_103 : decode cX12_tryTable 103 = .ok (.iload_n 1, 1) := by decide +kernel
theorem dX12_tryTable_104 : decode cX12_tryTable 104 = .ok (.iload 4, 2) := by decide +kernel
theorem dX12_tryTable_106 : decode cX12_tryTable 106 = .ok (.iastore, 1) := by decide +kernel
theorem dX12_tryTable_107 : decode cX12_tryTable 107 = .ok (.aload_n 0, 1) := by decide +kernel
theorem dX12_tryTable_108 : decode cX12_tryTable 108 = .ok (.iload_n 1, 1) := by decide +kernel
theorem dX12_tryTable_109 : decode cX12_tryTable 109 = .ok (.iconst 1, 1) := by decide +kernel
theorem dX12_tryTable_110 : decode cX12_tryTable 110 = .ok (.iadd, 1) := by decide +kernel
theorem dX12_tryTable_111 : decode cX12_tryTable 111 = .ok (.iload_n 2, 1) := by decide +kernel
theorem dX12_tryTable_112 : decode cX12_tryTable 112 = .ok (.iload 4, 2) := by decide +kernel
theorem dX12_tryTable_114 : decode cX12_tryTable 114 = .ok (.iadd, 1) := by decide +kernel
theorem dX12_tryTable_115 : decode cX12_tryTable 115 = .ok (.bipush 10, 2) := by decide +kernel
theorem dX12_tryTable_117 : decode cX12_tryTable 117 = .ok (.iload_n 3, 1) := by decide +kernel
theorem dX12_tryTable_118 : decode cX12_tryTable 118 = .ok (.imul, 1) := by decide +kernel
theorem dX12_tryTable_119 : decode cX12_tryTable 119 = .ok (.iload 4, 2) := by decide +kernel
theorem dX12_tryTable_121 : decode cX12_tryTable 121 = .ok (.iadd, 1) := by decide +kernel
theorem dX12_tryTable_122 : decode cX12_tryTable 122 = .ok (.invokevirtual 433, 3) := by decide +kernel
theorem dX12_tryTable_125 : decode cX12_tryTable 125 = .ok (.iinc 4 1, 3) := by decide +kernel
theorem dX12_tryTable_128 : decode cX12_tryTable 128 = .ok (.goto (-89), 3) := by decide +kernel
theorem dX12_tryTable_131 : decode cX12_tryTable 131 = .ok (.return_, 1) := by decide +kernel
theorem dX12_timetable_0 : decode cX12_timetable 0 = .ok (.aload_n 0, 1) := by decide +kernel
theorem dX12_timetable_1 : decode cX12_timetable 1 = .ok (.getfield 52, 3) := by decide +kernel
theorem dX12_timetable_4 : decode cX12_timetable 4 = .ok (.iconst 0, 1) := by decide +kernel
theorem dX12_timetable_5 : decode cX12_timetable 5 = .ok (.iaload, 1) := by decide +kernel
theorem dX12_timetable_6 : decode cX12_timetable 6 = .ok (.ifCond .eq 12, 3) := by decide +kernel
theorem dX12_timetable_9 : decode cX12_timetable 9 = .ok (.iload_n 1, 1) := by decide +kernel
theorem dX12_timetable_10 : decode cX12_timetable 10 = .ok (.iconst 0, 1) := by decide +kernel
theorem dX12_timetable_11 : decode cX12_timetable 11 = .ok (.iconst 1, 1) := by decide +kernel
theorem dX12_timetable_12 : decode cX12_timetable 12 = .ok (.invokestatic 238, 3) := by decide +kernel
theorem dX12_timetable_15 : decode cX12_timetable 15 = .ok (.ifCond .ne 5, 3) := by decide +kernel
theorem dX12_timetable_18 : decode cX12_timetable 18 = .ok (.iconst (-1), 1) := by decide +kernel
theorem dX12_timetable_19 : decode cX12_timetable 19 = .ok (.ireturn, 1) := by decide +kernel
theorem dX12_timetable_20 : decode cX12_timetable 20 = .ok (.aload_n 0, 1) := by decide +kernel
theorem dX12_timetable_21 : decode cX12_timetable 21 = .ok (.invokevirtual 436, 3) := by decide +kernel
theorem dX12_timetable_24 : decode cX12_timetable 24 = .ok (.aload_n 0, 1) := by decide +kernel
theorem dX12_timetable_25 : decode cX12_timetable 25 = .ok (.iconst (-1), 1) := by decide +kernel
theorem dX12_timetable_26 : decode cX12_timetable 26 = .ok (.putfield 423, 3) := by decide +kernel
theorem dX12_timetable_29 : decode cX12_timetable 29 = .ok (.aload_n 0, 1) := by decide +kernel
theorem dX12_timetable_30 : decode cX12_timetable 30 = .ok (.iconst 0, 1) := by decide +kernel
theorem dX12_timetable_31 : decode cX12_timetable 31 = .ok (.iconst 0, 1) := by decide +kernel
theorem dX12_timetable_32 : decode cX12_timetable 32 = .ok (.iconst 0, 1) := by decide +kernel
theorem dX12_timetable_33 : decode cX12_timetable 33 = .ok (.invokevirtual 433, 3) := by decide +kernel
theorem dX12_timetable_36 : decode cX12_timetable 36 = .ok (.aload_n 0, 1) := by decide +kernel
theorem dX12_timetable_37 : decode cX12_timetable 37 = .ok (.getfield 423, 3) := by decide +kernel
theorem dX12_timetable_40 : decode cX12_timetable 40 = .ok (.iconst (-1), 1) := by decide +kernel
theorem dX12_timetable_41 : decode cX12_timetable 41 = .ok (.if_icmp .ne 7, 3) := by decide +kernel
theorem dX12_timetable_44 : decode cX12_timetable 44 = .ok (.iconst (-1), 1) := by decide +kernel
theorem dX12_timetable_45 : decode cX12_timetable 45 = .ok (.goto 18, 3) := by decide +kernel
theorem dX12_timetable_48 : decode cX12_timetable 48 = .ok (.iload_n 1, 1) := by decide +kernel
theorem dX12_timetable_49 : decode cX12_timetable 49 = .ok (.ifCond .ne 10, 3) := by decide +kernel
theorem dX12_timetable_52 : decode cX12_timetable 52 = .ok (.aload_n 0, 1) := by decide +kernel
theorem dX12_timetable_53 : decode cX12_timetable 53 = .ok (.getfield 423, 3) := by decide +kernel
theorem dX12_timetable_56 : decode cX12_timetable 56 = .ok (.goto 7, 3) := by decide +kernel
theorem dX12_timetable_59 : decode cX12_timetable 59 = .ok (.aload_n 0, 1) := by decide +kernel
theorem dX12_timetable_60 : decode cX12_timetable 60 = .ok (.getfield 426, 3) := by decide +kernel
theorem dX12_timetable_63 : decode cX12_timetable 63 = .ok (.ireturn, 1) := by decide +kernel
theorem dX12_clashes_0 : decode cX12_clashes 0 = .ok (.aload_n 0, 1) := by decide +kernel
theorem dX12_clashes_1 : decode cX12_clashes 1 = .ok (.getfield 52, 3) := by decide +kernel
theorem dX12_clashes_4 : decode cX12_clashes 4 = .ok (.iconst 0, 1) := by decide +kernel
theorem dX12_clashes_5 : decode cX12_clashes 5 = .ok (.iaload, 1) := by decide +kernel
theorem dX12_clashes_6 : decode cX12_clashes 6 = .ok (.ifCond .ne 5, 3) := by decide +kernel
theorem dX12_clashes_9 : decode cX12_clashes 9 = .ok (.iconst (-1), 1) := by decide +kernel
theorem dX12_clashes_10 : decode cX12_clashes 10 = .ok (.ireturn, 1) := by decide +kernel
theorem dX12_clashes_11 : decode cX12_clashes 11 = .ok (.aload_n 0, 1) := by decide +kernel
theorem dX12_clashes_12 : decode cX12_clashes 12 = .ok (.invokevirtual 436, 3) := by decide +kernel
theorem dX12_clashes_15 : decode cX12_clashes 15 = .ok (.iconst 0, 1) := by decide +kernel
theorem dX12_clashes_16 : decode cX12_clashes 16 = .ok (.istore_n 1, 1) := by decide +kernel
theorem dX12_clashes_17 : decode cX12_clashes 17 = .ok (.iconst 0, 1) := by decide +kernel
theorem dX12_clashes_18 : decode cX12_clashes 18 = .ok (.istore_n 2, 1) := by decide +kernel
theorem dX12_clashes_19 : decode cX12_clashes 19 = .ok (.iload_n 2, 1) := by decide +kernel
theorem dX12_clashes_20 : decode cX12_clashes 20 = .ok (.aload_n 0, 1) := by decide +kernel
theorem dX12_clashes_21 : decode cX12_clashes 21 = .ok (.getfield 294, 3) := by decide +kernel
theorem dX12_clashes_24 : decode cX12_clashes 24 = .ok (.if_icmp .ge 33, 3) := by decide +kernel
theorem dX12_clashes_27 : decode cX12_clashes 27 = .ok (.iconst 0, 1) := by decide +kernel
theorem dX12_clashes_28 : decode cX12_clashes 28 = .ok (.istore_n 3, 1) := by decide +kernel
theorem dX12_clashes_29 : decode cX12_clashes 29 = .ok (.iload_n 3, 1) := by decide +kernel
theorem dX12_clashes_30 : decode cX12_clashes 30 = .ok (.iload_n 2, 1) := by decide +kernel
theorem dX12_clashes_31 : decode cX12_clashes 31 = .ok (.if_icmp .ge 20, 3) := by decide +kernel
theorem dX12_clashes_34 : decode cX12_clashes 34 = .ok (.iload_n 1, 1) := by decide +kernel
theorem dX12_clashes_35 : decode cX12_clashes 35 = .ok (.aload_n 0, 1) := by decide +kernel
theorem dX12_clashes_36 : decode cX12_clashes 36 = .ok (.iload_n 3, 1) := by decide +kernel
theorem dX12_clashes_37 : decode cX12_clashes 37 = .ok (.iconst 0, 1) := by decide +kernel
theorem dX12_clashes_38 : decode cX12_clashes 38 = .ok (.iload_n 2, 1) := by decide +kernel
theorem dX12_clashes_39 : decode cX12_clashes 39 = .ok (.iconst 0, 1) := by decide +kernel
theorem dX12_clashes_40 : decode cX12_clashes 40 = .ok (.invokevirtual 429, 3) := by decide +kernel
theorem dX12_clashes_43 : decode cX12_clashes 43 = .ok (.iadd, 1) := by decide +kernel
theorem dX12_clashes_44 : decode cX12_clashes 44 = .ok (.istore_n 1, 1) := by decide +kernel
theorem dX12_clashes_45 : decode cX12_clashes 45 = .ok (.iinc 3 1, 3) := by decide +kernel
theorem dX12_clashes_48 : decode cX12_clashes 48 = .ok (.goto (-19), 3) := by decide +kernel
theorem dX12_clashes_51 : decode cX12_clashes 51 = .ok (.iinc 2 1, 3) := by decide +kernel
theorem dX12_clashes_54 : decode cX12_clashes 54 = .ok (.goto (-35), 3) := by decide +kernel
theorem dX12_clashes_57 : decode cX12_clashes 57 = .ok (.iload_n 1, 1) := by decide +kernel
theorem dX12_clashes_58 : decode cX12_clashes 58 = .ok (.ireturn, 1) := by decide +kernel
theorem dX12_lay_0 : decode cX12_lay 0 = .ok (.aload_n 0, 1) := by decide +kernel
theorem dX12_lay_1 : decode cX12_lay 1 = .ok (.iload_n 1, 1) := by decide +kernel
theorem dX12_lay_2 : decode cX12_lay 2 = .ok (.iload 4, 2) := by decide +kernel
theorem dX12_lay_4 : decode cX12_lay 4 = .ok (.invokevirtual 392, 3) := by decide +kernel
theorem dX12_lay_7 : decode cX12_lay 7 = .ok (.ifCond .eq 29, 3) := by decide +kernel
theorem dX12_lay_10 : decode cX12_lay 10 = .ok (.aload_n 0, 1) := by decide +kernel
theorem dX12_lay_11 : decode cX12_lay 11 = .ok (.iload_n 2, 1) := by decide +kernel
theorem dX12_lay_12 : decode cX12_lay 12 = .ok (.invokevirtual 317, 3) := by decide +kernel
theorem dX12_lay_15 : decode cX12_lay 15 = .ok (.ifCond .eq 21, 3) := by decide +kernel
theorem dX12_lay_18 : decode cX12_lay 18 = .ok (.iload_n 3, 1) := by decide +kernel
theorem dX12_lay_19 : decode cX12_lay 19 = .ok (.iconst 1, 1) := by decide +kernel
theorem dX12_lay_20 : decode cX12_lay 20 = .ok (.iconst 4, 1) := by decide +kernel
theorem dX12_lay_21 : decode cX12_lay 21 = .ok (.invokestatic 238, 3) := by decide +kernel
theorem dX12_lay_24 : decode cX12_lay 24 = .ok (.ifCond .eq 12, 3) := by decide +kernel
theorem dX12_lay_27 : decode cX12_lay 27 = .ok (.aload_n 0, 1) := by decide +kernel
theorem dX12_lay_28 : decode cX12_lay 28 = .ok (.getfield 301, 3) := by decide +kernel
theorem dX12_lay_31 : decode cX12_lay 31 = .ok (.bipush 10, 2) := by decide +kernel
theorem dX12_lay_33 : decode cX12_lay 33 = .ok (.if_icmp .ne 5, 3) := by decide +kernel
theorem dX12_lay_36 : decode cX12_lay 36 = .ok (.iconst (-1), 1) := by decide +kernel
theorem dX12_lay_37 : decode cX12_lay 37 = .ok (.ireturn, 1) := by decide +kernel
theorem dX12_lay_38 : decode cX12_lay 38 = .ok (.aload_n 0, 1) := by decide +kernel
theorem dX12_lay_39 : decode cX12_lay 39 = .ok (.getfield 95, 3) := by decide +kernel
theorem dX12_lay_42 : decode cX12_lay 42 = .ok (.aload_n 0, 1) := by decide +kernel
theorem dX12_lay_43 : decode cX12_lay 43 = .ok (.getfield 301, 3) := by decide +kernel
theorem dX12_lay_46 : decode cX12_lay 46 = .ok (.iload_n 1, 1) := by decide +kernel
theorem dX12_lay_47 : decode cX12_lay 47 = .ok (.iastore, 1) := by decide +kernel
theorem dX12_lay_48 : decode cX12_lay 48 = .ok (.aload_n 0, 1) := by decide +kernel
theorem dX12_lay_49 : decode cX12_lay 49 = .ok (.getfield 98, 3) := by decide +kernel
theorem dX12_lay_52 : decode cX12_lay 52 = .ok (.aload_n 0, 1) := by decide +kernel
theorem dX12_lay_53 : decode cX12_lay 53 = .ok (.getfield 301, 3) := by decide +kernel
theorem dX12_lay_56 : decode cX12_lay 56 = .ok (.iload_n 2, 1) := by decide +kernel
theorem dX12_lay_57 : decode cX12_lay 57 = .ok (.iastore, 1) := by decide +kernel
theorem dX12_lay_58 : decode cX12_lay 58 = .ok (.aload_n 0, 1) := by decide +kernel
theorem dX12_lay_59 : decode cX12_lay 59 = .ok (.getfield 101, 3) := by decide +kernel
theorem dX12_lay_62 : decode cX12_lay 62 = .ok (.aload_n 0, 1) := by decide +kernel
theorem dX12_lay_63 : decode cX12_lay 63 = .ok (.getfield 301, 3) := by decide +kernel
theorem dX12_lay_66 : decode cX12_lay 66 = .ok (.iload_n 3, 1) := by decide +kernel
theorem dX12_lay_67 : decode cX12_lay 67 = .ok (.iastore, 1) := by decide +kernel
theorem dX12_lay_68 : decode cX12_lay 68 = .ok (.aload_n 0, 1) := by decide +kernel
theorem dX12_lay_69 : decode cX12_lay 69 = .ok (.getfield 104, 3) := by decide +kernel
theorem dX12_lay_72 : decode cX12_lay 72 = .ok (.aload_n 0, 1) := by decide +kernel
theorem dX12_lay_73 : decode cX12_lay 73 = .ok (.getfield 301, 3) := by decide +kernel
theorem dX12_lay_76 : decode cX12_lay 76 = .ok (.iload 4, 2) := by decide +kernel
theorem dX12_lay_78 : decode cX12_lay 78 = .ok (.iastore, 1) := by decide +kernel
theorem dX12_lay_79 : decode cX12_lay 79 = .ok (.aload_n 0, 1) := by decide +kernel
theorem dX12_lay_80 : decode cX12_lay 80 = .ok (.dup, 1) := by decide +kernel
theorem dX12_lay_81 : decode cX12_lay 81 = .ok (.getfield 301, 3) := by decide +kernel
theorem dX12_lay_84 : decode cX12_lay 84 = .ok (.iconst 1, 1) := by decide +kernel
theorem dX12_lay_85 : decode cX12_lay 85 = .ok (.iadd, 1) := by decide +kernel
theorem dX12_lay_86 : decode cX12_lay 86 = .ok (.putfield 301, 3) := by decide +kernel
theorem dX12_lay_89 : decode cX12_lay 89 = .ok (.aload_n 0, 1) := by decide +kernel
theorem dX12_lay_90 : decode cX12_lay 90 = .ok (.getfield 301, 3) := by decide +kernel
theorem dX12_lay_93 : decode cX12_lay 93 = .ok (.ireturn, 1) := by decide +kernel
theorem dX12_unknownAt_0 : decode cX12_unknownAt 0 = .ok (.iconst 0, 1) := by decide +kernel
theorem dX12_unknownAt_1 : decode cX12_unknownAt 1 = .ok (.istore_n 2, 1) := by decide +kernel
theorem dX12_unknownAt_2 : decode cX12_unknownAt 2 = .ok (.iconst 0, 1) := by decide +kernel
theorem dX12_unknownAt_3 : decode cX12_unknownAt 3 = .ok (.istore_n 3, 1) := by decide +kernel
theorem dX12_unknownAt_4 : decode cX12_unknownAt 4 = .ok (.iload_n 3, 1) := by decide +kernel
theorem dX12_unknownAt_5 : decode cX12_unknownAt 5 = .ok (.aload_n 0, 1) := by decide +kernel
theorem dX12_unknownAt_6 : decode cX12_unknownAt 6 = .ok (.getfield 285, 3) := by decide +kernel
theorem dX12_unknownAt_9 : decode cX12_unknownAt 9 = .ok (.if_icmp .ge 51, 3) := by decide +kernel
theorem dX12_unknownAt_12 : decode cX12_unknownAt 12 = .ok (.iconst 0, 1) := by decide +kernel
theorem dX12_unknownAt_13 : decode cX12_unknownAt 13 = .ok (.iconst 5, 1) := by decide +kernel
theorem dX12_unknownAt_14 : decode cX12_unknownAt 14 = .ok (.aload_n 0, 1) := by decide +kernel
theorem dX12_unknownAt_15 : decode cX12_unknownAt 15 = .ok (.getfield 61, 3) := by decide +kernel
theorem dX12_unknownAt_18 : decode cX12_unknownAt 18 = .ok (.iload_n 3, 1) := by decide +kernel
theorem dX12_unknownAt_19 : decode cX12_unknownAt 19 = .ok (.iaload, 1) := by decide +kernel
theorem dX12_unknownAt_20 : decode cX12_unknownAt 20 = .ok (.imul, 1) := by decide +kernel
theorem dX12_unknownAt_21 : decode cX12_unknownAt 21 = .ok (.iadd, 1) := by decide +kernel
theorem dX12_unknownAt_22 : decode cX12_unknownAt 22 = .ok (.aload_n 0, 1) := by decide +kernel
theorem dX12_unknownAt_23 : decode cX12_unknownAt 23 = .ok (.getfield 64, 3) := by decide +kernel
theorem dX12_unknownAt_26 : decode cX12_unknownAt 26 = .ok (.iload_n 3, 1) := by decide +kernel
theorem dX12_unknownAt_27 : decode cX12_unknownAt 27 = .ok (.iaload, 1) := by decide +kernel
theorem dX12_unknownAt_28 : decode cX12_unknownAt 28 = .ok (.iadd, 1) := by decide +kernel
theorem dX12_unknownAt_29 : decode cX12_unknownAt 29 = .ok (.istore 4, 2) := by decide +kernel
theorem dX12_unknownAt_31 : decode cX12_unknownAt 31 = .ok (.aload_n 0, 1) := by decide +kernel
theorem dX12_unknownAt_32 : decode cX12_unknownAt 32 = .ok (.getfield 58, 3) := by decide +kernel
theorem dX12_unknownAt_35 : decode cX12_unknownAt 35 = .ok (.iload 4, 2) := by decide +kernel
theorem dX12_unknownAt_37 : decode cX12_unknownAt 37 = .ok (.iaload, 1) := by decide +kernel
theorem dX12_unknownAt_38 : decode cX12_unknownAt 38 = .ok (.bipush (-2), 2) := by decide +kernel
theorem dX12_unknownAt_40 : decode cX12_unknownAt 40 = .ok (.if_icmp .ne 14, 3) := by decide +kernel
theorem dX12_unknownAt_43 : decode cX12_unknownAt 43 = .ok (.iload_n 2, 1) := by decide +kernel
theorem dX12_unknownAt_44 : decode cX12_unknownAt 44 = .ok (.iload_n 1, 1) := by decide +kernel
theorem dX12_unknownAt_45 : decode cX12_unknownAt 45 = .ok (.if_icmp .ne 6, 3) := by decide +kernel
theorem dX12_unknownAt_48 : decode cX12_unknownAt 48 = .ok (.iload 4, 2) := by decide +kernel
theorem dX12_unknownAt_50 : decode cX12_unknownAt 50 = .ok (.ireturn, 1) := by decide +kernel
theorem dX12_unknownAt_51 : decode cX12_unknownAt 51 = .ok (.iinc 2 1, 3) := by decide +kernel
theorem dX12_unknownAt_54 : decode cX12_unknownAt 54 = .ok (.iinc 3 1, 3) := by decide +kernel
theorem dX12_unknownAt_57 : decode cX12_unknownAt 57 = .ok (.goto (-53), 3) := by decide +kernel
theorem dX12_unknownAt_60 : decode cX12_unknownAt 60 = .ok (.iconst (-1), 1) := by decide +kernel
theorem dX12_unknownAt_61 : decode cX12_unknownAt 61 = .ok (.ireturn, 1) := by decide +kernel
theorem dX12_unknownNow_0 : decode cX12_unknownNow 0 = .ok (.iconst 0, 1) := by decide +kernel
theorem dX12_unknownNow_1 : decode cX12_unknownNow 1 = .ok (.istore_n 1, 1) := by decide +kernel
theorem dX12_unknownNow_2 : decode cX12_unknownNow 2 = .ok (.aload_n 0, 1) := by decide +kernel
theorem dX12_unknownNow_3 : decode cX12_unknownNow 3 = .ok (.iload_n 1, 1) := by decide +kernel
theorem dX12_unknownNow_4 : decode cX12_unknownNow 4 = .ok (.invokevirtual 439, 3) := by decide +kernel
theorem dX12_unknownNow_7 : decode cX12_unknownNow 7 = .ok (.iconst (-1), 1) := by decide +kernel
theorem dX12_unknownNow_8 : decode cX12_unknownNow 8 = .ok (.if_icmp .eq 9, 3) := by decide +kernel
theorem dX12_unknownNow_11 : decode cX12_unknownNow 11 = .ok (.iinc 1 1, 3) := by decide +kernel
theorem dX12_unknownNow_14 : decode cX12_unknownNow 14 = .ok (.goto (-12), 3) := by decide +kernel
theorem dX12_unknownNow_17 : decode cX12_unknownNow 17 = .ok (.iload_n 1, 1) := by decide +kernel
theorem dX12_unknownNow_18 : decode cX12_unknownNow 18 = .ok (.ireturn, 1) := by decide +kernel
theorem dX12_ten_0 : decode cX12_ten 0 = .ok (.iconst 1, 1) := by decide +kernel
theorem dX12_ten_1 : decode cX12_ten 1 = .ok (.istore_n 1, 1) := by decide +kernel
theorem dX12_ten_2 : decode cX12_ten 2 = .ok (.iconst 0, 1) := by decide +kernel
theorem dX12_ten_3 : decode cX12_ten 3 = .ok (.istore_n 2, 1) := by decide +kernel
theorem dX12_ten_4 : decode cX12_ten 4 = .ok (.iload_n 2, 1) := by decide +kernel
theorem dX12_ten_5 : decode cX12_ten 5 = .ok (.iload_n 0, 1) := by decide +kernel
theorem dX12_ten_6 : decode cX12_ten 6 = .ok (.if_icmp .ge 14, 3) := by decide +kernel
theorem dX12_ten_9 : decode cX12_ten 9 = .ok (.iload_n 1, 1) := by decide +kernel
theorem dX12_ten_10 : decode cX12_ten 10 = .ok (.bipush 10, 2) := by decide +kernel
theorem dX12_ten_12 : decode cX12_ten 12 = .ok (.imul, 1) := by decide +kernel
theorem dX12_ten_13 : decode cX12_ten 13 = .ok (.istore_n 1, 1) := by decide +kernel
theorem dX12_ten_14 : decode cX12_ten 14 = .ok (.iinc 2 1, 3) := by decide +kernel
theorem dX12_ten_17 : decode cX12_ten 17 = .ok (.goto (-13), 3) := by decide +kernel
theorem dX12_ten_20 : decode cX12_ten 20 = .ok (.iload_n 1, 1) := by decide +kernel
theorem dX12_ten_21 : decode cX12_ten 21 = .ok (.ireturn, 1) := by decide +kernel
theorem dX12_areLaidSo_0 : decode cX12_areLaidSo 0 = .ok (.iconst 0, 1) := by decide +kernel
theorem dX12_areLaidSo_1 : decode cX12_areLaidSo 1 = .ok (.istore_n 1, 1) := by decide +kernel
theorem dX12_areLaidSo_2 : decode cX12_areLaidSo 2 = .ok (.iload_n 1, 1) := by decide +kernel
theorem dX12_areLaidSo_3 : decode cX12_areLaidSo 3 = .ok (.aload_n 0, 1) := by decide +kernel
theorem dX12_areLaidSo_4 : decode cX12_areLaidSo 4 = .ok (.getfield 301, 3) := by decide +kernel
theorem dX12_areLaidSo_7 : decode cX12_areLaidSo 7 = .ok (.if_icmp .ge 42, 3) := by decide +kernel
theorem dX12_areLaidSo_10 : decode cX12_areLaidSo 10 = .ok (.aload_n 0, 1) := by decide +kernel
theorem dX12_areLaidSo_11 : decode cX12_areLaidSo 11 = .ok (.aload_n 0, 1) := by decide +kernel
theorem dX12_areLaidSo_12 : decode cX12_areLaidSo 12 = .ok (.getfield 95, 3) := by decide +kernel
theorem dX12_areLaidSo_15 : decode cX12_areLaidSo 15 = .ok (.iload_n 1, 1) := by decide +kernel
theorem dX12_areLaidSo_16 : decode cX12_areLaidSo 16 = .ok (.iaload, 1) := by decide +kernel
theorem dX12_areLaidSo_17 : decode cX12_areLaidSo 17 = .ok (.aload_n 0, 1) := by decide +kernel
theorem dX12_areLaidSo_18 : decode cX12_areLaidSo 18 = .ok (.getfield 98, 3) := by decide +kernel
theorem dX12_areLaidSo_21 : decode cX12_areLaidSo 21 = .ok (.iload_n 1, 1) := by decide +kernel
theorem dX12_areLaidSo_22 : decode cX12_areLaidSo 22 = .ok (.iaload, 1) := by decide +kernel
theorem dX12_areLaidSo_23 : decode cX12_areLaidSo 23 = .ok (.aload_n 0, 1) := by decide +kernel
theorem dX12_areLaidSo_24 : decode cX12_areLaidSo 24 = .ok (.getfield 101, 3) := by decide +kernel
theorem dX12_areLaidSo_27 : decode cX12_areLaidSo 27 = .ok (.iload_n 1, 1) := by decide +kernel
theorem dX12_areLaidSo_28 : decode cX12_areLaidSo 28 = .ok (.iaload, 1) := by decide +kernel
theorem dX12_areLaidSo_29 : decode cX12_areLaidSo 29 = .ok (.invokevirtual 382, 3) := by decide +kernel
theorem dX12_areLaidSo_32 : decode cX12_areLaidSo 32 = .ok (.aload_n 0, 1) := by decide +kernel
theorem dX12_areLaidSo_33 : decode cX12_areLaidSo 33 = .ok (.getfield 104, 3) := by decide +kernel
theorem dX12_areLaidSo_36 : decode cX12_areLaidSo 36 = .ok (.iload_n 1, 1) := by decide +kernel
theorem dX12_areLaidSo_37 : decode cX12_areLaidSo 37 = .ok (.iaload, 1) := by decide +kernel
theorem dX12_areLaidSo_38 : decode cX12_areLaidSo 38 = .ok (.if_icmp .eq 5, 3) := by decide +kernel
theorem dX12_areLaidSo_41 : decode cX12_areLaidSo 41 = .ok (.iconst 0, 1) := by decide +kernel
theorem dX12_areLaidSo_42 : decode cX12_areLaidSo 42 = .ok (.ireturn, 1) := by decide +kernel
theorem dX12_areLaidSo_43 : decode cX12_areLaidSo 43 = .ok (.iinc 1 1, 3) := by decide +kernel
theorem dX12_areLaidSo_46 : decode cX12_areLaidSo 46 = .ok (.goto (-44), 3) := by decide +kernel
theorem dX12_areLaidSo_49 : decode cX12_areLaidSo 49 = .ok (.iconst 1, 1) := by decide +kernel
theorem dX12_areLaidSo_50 : decode cX12_areLaidSo 50 = .ok (.ireturn, 1) := by decide +kernel
theorem dX12_tryNets_0 : decode cX12_tryNets 0 = .ok (.iload_n 1, 1) := by decide +kernel
theorem dX12_tryNets_1 : decode cX12_tryNets 1 = .ok (.iload_n 2, 1) := by decide +kernel
theorem dX12_tryNets_2 : decode cX12_tryNets 2 = .ok (.if_icmp .ne 86, 3) := by decide +kernel
theorem dX12_tryNets_5 : decode cX12_tryNets 5 = .ok (.aload_n 0, 1) := by decide +kernel
theorem dX12_tryNets_6 : decode cX12_tryNets 6 = .ok (.invokevirtual 442, 3) := by decide +kernel
theorem dX12_tryNets_9 : decode cX12_tryNets 9 = .ok (.ifCond .eq 78, 3) := by decide +kernel
theorem dX12_tryNets_12 : decode cX12_tryNets 12 = .ok (.aload_n 0, 1) := by decide +kernel
theorem dX12_tryNets_13 : decode cX12_tryNets 13 = .ok (.aload_n 0, 1) := by decide +kernel
theorem dX12_tryNets_14 : decode cX12_tryNets 14 = .ok (.getfield 445, 3) := by decide +kernel
theorem dX12_tryNets_17 : decode cX12_tryNets 17 = .ok (.iload 4, 2) := by decide +kernel
theorem dX12_tryNets_19 : decode cX12_tryNets 19 = .ok (.if_icmp .ne 7, 3) := by decide +kernel
theorem dX12_tryNets_22 : decode cX12_tryNets 22 = .ok (.iload_n 3, 1) := by decide +kernel
theorem dX12_tryNets_23 : decode cX12_tryNets 23 = .ok (.goto 7, 3) := by decide +kernel
theorem dX12_tryNets_26 : decode cX12_tryNets 26 = .ok (.aload_n 0, 1) := by decide +kernel
theorem dX12_tryNets_27 : decode cX12_tryNets 27 = .ok (.getfield 448, 3) := by decide +kernel
theorem dX12_tryNets_30 : decode cX12_tryNets 30 = .ok (.putfield 448, 3) := by decide +kernel
theorem dX12_tryNets_33 : decode cX12_tryNets 33 = .ok (.aload_n 0, 1) := by decide +kernel
theorem dX12_tryNets_34 : decode cX12_tryNets 34 = .ok (.dup, 1) := by decide +kernel
theorem dX12_tryNets_35 : decode cX12_tryNets 35 = .ok (.getfield 445, 3) := by decide +kernel
theorem dX12_tryNets_38 : decode cX12_tryNets 38 = .ok (.iconst 1, 1) := by decide +kernel
theorem dX12_tryNets_39 : decode cX12_tryNets 39 = .ok (.iadd, 1) := by decide +kernel
theorem dX12_tryNets_40 : decode cX12_tryNets 40 = .ok (.putfield 445, 3) := by decide +kernel
theorem dX12_tryNets_43 : decode cX12_tryNets 43 = .ok (.iconst 0, 1) := by decide +kernel
theorem dX12_tryNets_44 : decode cX12_tryNets 44 = .ok (.istore 5, 2) := by decide +kernel
theorem dX12_tryNets_46 : decode cX12_tryNets 46 = .ok (.iload 5, 2) := by decide +kernel
theorem dX12_tryNets_48 : decode cX12_tryNets 48 = .ok (.iload_n 2, 1) := by decide +kernel
theorem dX12_tryNets_49 : decode cX12_tryNets 49 = .ok (.if_icmp .ge 38, 3) := by decide +kernel
theorem dX12_tryNets_52 : decode cX12_tryNets 52 = .ok (.aload_n 0, 1) := by decide +kernel
theorem dX12_tryNets_53 : decode cX12_tryNets 53 = .ok (.getfield 110, 3) := by decide +kernel
theorem dX12_tryNets_56 : decode cX12_tryNets 56 = .ok (.bipush 8, 2) := by decide +kernel
theorem dX12_tryNets_58 : decode cX12_tryNets 58 = .ok (.iload 5, 2) := by decide +kernel
theorem dX12_tryNets_60 : decode cX12_tryNets 60 = .ok (.imul, 1) := by decide +kernel
theorem dX12_tryNets_61 : decode cX12_tryNets 61 = .ok (.iload_n 3, 1) := by decide +kernel
theorem dX12_tryNets_62 : decode cX12_tryNets 62 = .ok (.iload_n 2, 1) := by decide +kernel
theorem dX12_tryNets_63 : decode cX12_tryNets 63 = .ok (.iconst 1, 1) := by decide +kernel
theorem dX12_tryNets_64 : decode cX12_tryNets 64 = .ok (.isub, 1) := by decide +kernel
theorem dX12_tryNets_65 : decode cX12_tryNets 65 = .ok (.iload 5, 2) := by decide +kernel
theorem dX12_tryNets_67 : decode cX12_tryNets 67 = .ok (.isub, 1) := by decide +kernel
theorem dX12_tryNets_68 : decode cX12_tryNets 68 = .ok (.invokestatic 451, 3) := by decide +kernel
theorem dX12_tryNets_71 : decode cX12_tryNets 71 = .ok (.idiv, 1) := by decide +kernel
theorem dX12_tryNets_72 : decode cX12_tryNets 72 = .ok (.bipush 10, 2) := by decide +kernel
theorem dX12_tryNets_74 : decode cX12_tryNets 74 = .ok (.irem, 1) := by decide +kernel
theorem dX12_tryNets_75 : decode cX12_tryNets 75 = .ok (.iadd, 1) := by decide +kernel
theorem dX12_tryNets_76 : decode cX12_tryNets 76 = .ok (.dup2, 1) := by decide +kernel
theorem dX12_tryNets_77 : decode cX12_tryNets 77 = .ok (.iaload, 1) := by decide +kernel
theorem dX12_tryNets_78 : decode cX12_tryNets 78 = .ok (.iconst 1, 1) := by decide +kernel
theorem dX12_tryNets_79 : decode cX12_tryNets 79 = .ok (.iadd, 1) := by decide +kernel
theorem dX12_tryNets_80 : decode cX12_tryNets 80 = .ok (.iastore, 1) := by decide +kernel
theorem dX12_tryNets_81 : decode cX12_tryNets 81 = .ok (.iinc 5 1, 3) := by decide +kernel
theorem dX12_tryNets_84 : decode cX12_tryNets 84 = .ok (.goto (-38), 3) := by decide +kernel
theorem dX12_tryNets_87 : decode cX12_tryNets 87 = .ok (.return_, 1) := by decide +kernel
theorem dX12_tryNets_88 : decode cX12_tryNets 88 = .ok (.iconst 0, 1) := by decide +kernel
theorem dX12_tryNets_89 : decode cX12_tryNets 89 = .ok (.istore 5, 2) := by decide +kernel
theorem dX12_tryNets_91 : decode cX12_tryNets 91 = .ok (.iload 5, 2) := by decide +kernel
theorem dX12_tryNets_93 : decode cX12_tryNets 93 = .ok (.aload_n 0, 1) := by decide +kernel
theorem dX12_tryNets_94 : decode cX12_tryNets 94 = .ok (.getfield 52, 3) := by decide +kernel
theorem dX12_tryNets_97 : decode cX12_tryNets 97 = .ok (.iconst 0, 1) := by decide +kernel
theorem dX12_tryNets_98 : decode cX12_tryNets 98 = .ok (.iaload, 1) := by decide +kernel
theorem dX12_tryNets_99 : decode cX12_tryNets 99 = .ok (.if_icmp .ge 39, 3) := by decide +kernel
theorem dX12_tryNets_102 : decode cX12_tryNets 102 = .ok (.aload_n 0, 1) := by decide +kernel
theorem dX12_tryNets_103 : decode cX12_tryNets 103 = .ok (.getfield 58, 3) := by decide +kernel
theorem dX12_tryNets_106 : decode cX12_tryNets 106 = .ok (.aload_n 0, 1) := by decide +kernel
theorem dX12_tryNets_107 : decode cX12_tryNets 107 = .ok (.getfield 107, 3) := by decide +kernel
theorem dX12_tryNets_110 : decode cX12_tryNets 110 = .ok (.iload_n 1, 1) := by decide +kernel
theorem dX12_tryNets_111 : decode cX12_tryNets 111 = .ok (.iaload, 1) := by decide +kernel
theorem dX12_tryNets_112 : decode cX12_tryNets 112 = .ok (.iload 5, 2) := by decide +kernel
theorem dX12_tryNets_114 : decode cX12_tryNets 114 = .ok (.iastore, 1) := by decide +kernel
theorem dX12_tryNets_115 : decode cX12_tryNets 115 = .ok (.aload_n 0, 1) := by decide +kernel
theorem dX12_tryNets_116 : decode cX12_tryNets 116 = .ok (.iload_n 1, 1) := by decide +kernel
theorem dX12_tryNets_117 : decode cX12_tryNets 117 = .ok (.iconst 1, 1) := by decide +kernel
theorem dX12_tryNets_118 : decode cX12_tryNets 118 = .ok (.iadd, 1) := by decide +kernel
theorem dX12_tryNets_119 : decode cX12_tryNets 119 = .ok (.iload_n 2, 1) := by decide +kernel
theorem dX12_tryNets_120 : decode cX12_tryNets 120 = .ok (.bipush 10, 2) := by decide +kernel
theorem dX12_tryNets_122 : decode cX12_tryNets 122 = .ok (.iload_n 3, 1) := by decide +kernel
theorem dX12_tryNets_123 : decode cX12_tryNets 123 = .ok (.imul, 1) := by decide +kernel
theorem dX12_tryNets_124 : decode cX12_tryNets 124 = .ok (.iload 5, 2) := by decide +kernel
theorem dX12_tryNets_126 : decode cX12_tryNets 126 = .ok (.iadd, 1) := by decide +kernel
theorem dX12_tryNets_127 : decode cX12_tryNets 127 = .ok (.iload 4, 2) := by decide +kernel
theorem dX12_tryNets_129 : decode cX12_tryNets 129 = .ok (.invokevirtual 454, 3) := by decide +kernel
theorem dX12_tryNets_132 : decode cX12_tryNets 132 = .ok (.iinc 5 1, 3) := by decide +kernel
theorem dX12_tryNets_135 : decode cX12_tryNets 135 = .ok (.goto (-44), 3) := by decide +kernel
theorem dX12_tryNets_138 : decode cX12_tryNets 138 = .ok (.aload_n 0, 1) := by decide +kernel
theorem dX12_tryNets_139 : decode cX12_tryNets 139 = .ok (.getfield 58, 3) := by decide +kernel
theorem dX12_tryNets_142 : decode cX12_tryNets 142 = .ok (.aload_n 0, 1) := by decide +kernel
theorem dX12_tryNets_143 : decode cX12_tryNets 143 = .ok (.getfield 107, 3) := by decide +kernel
theorem dX12_tryNets_146 : decode cX12_tryNets 146 = .ok (.iload_n 1, 1) := by decide +kernel
theorem dX12_tryNets_147 : decode cX12_tryNets 147 = .ok (.iaload, 1) := by decide +kernel
theorem dX12_tryNets_148 : decode cX12_tryNets 148 = .ok (.bipush (-2), 2) := by decide +kernel
theorem dX12_tryNets_150 : decode cX12_tryNets 150 = .ok (.iastore, 1) := by decide +kernel
theorem dX12_tryNets_151 : decode cX12_tryNets 151 = .ok (.return_, 1) := by decide +kernel
theorem dX12_layNets_0 : decode cX12_layNets 0 = .ok (.aload_n 0, 1) := by decide +kernel
theorem dX12_layNets_1 : decode cX12_layNets 1 = .ok (.invokevirtual 458, 3) := by decide +kernel
theorem dX12_layNets_4 : decode cX12_layNets 4 = .ok (.istore_n 2, 1) := by decide +kernel
theorem dX12_layNets_5 : decode cX12_layNets 5 = .ok (.iconst 0, 1) := by decide +kernel
theorem dX12_layNets_6 : decode cX12_layNets 6 = .ok (.istore_n 3, 1) := by decide +kernel
theorem dX12_layNets_7 : decode cX12_layNets 7 = .ok (.iload_n 3, 1) := by decide +kernel
theorem dX12_layNets_8 : decode cX12_layNets 8 = .ok (.iload_n 2, 1) := by decide +kernel
theorem dX12_layNets_9 : decode cX12_layNets 9 = .ok (.if_icmp .ge 20, 3) := by decide +kernel
theorem dX12_layNets_12 : decode cX12_layNets 12 = .ok (.aload_n 0, 1) := by decide +kernel
theorem dX12_layNets_13 : decode cX12_layNets 13 = .ok (.getfield 107, 3) := by decide +kernel
theorem dX12_layNets_16 : decode cX12_layNets 16 = .ok (.iload_n 3, 1) := by decide +kernel
theorem dX12_layNets_17 : decode cX12_layNets 17 = .ok (.aload_n 0, 1) := by decide +kernel
theorem dX12_layNets_18 : decode cX12_layNets 18 = .ok (.iload_n 3, 1) := by decide +kernel
theorem dX12_layNets_19 : decode cX12_layNets 19 = .ok (.invokevirtual 439, 3) := by decide +kernel
theorem dX12_layNets_22 : decode cX12_layNets 22 = .ok (.iastore, 1) := by decide +kernel
theorem dX12_layNets_23 : decode cX12_layNets 23 = .ok (.iinc 3 1, 3) := by decide +kernel
theorem dX12_layNets_26 : decode cX12_layNets 26 = .ok (.goto (-19), 3) := by decide +kernel
theorem dX12_layNets_29 : decode cX12_layNets 29 = .ok (.iconst 0, 1) := by decide +kernel
theorem dX12_layNets_30 : decode cX12_layNets 30 = .ok (.istore_n 3, 1) := by decide +kernel
theorem dX12_layNets_31 : decode cX12_layNets 31 = .ok (.iload_n 3, 1) := by decide +kernel
theorem dX12_layNets_32 : decode cX12_layNets 32 = .ok (.bipush 32, 2) := by decide +kernel
theorem dX12_layNets_34 : decode cX12_layNets 34 = .ok (.if_icmp .ge 16, 3) := by decide +kernel
theorem dX12_layNets_37 : decode cX12_layNets 37 = .ok (.aload_n 0, 1) := by decide +kernel
theorem dX12_layNets_38 : decode cX12_layNets 38 = .ok (.getfield 110, 3) := by decide +kernel
theorem dX12_layNets_41 : decode cX12_layNets 41 = .ok (.iload_n 3, 1) := by decide +kernel
theorem dX12_layNets_42 : decode cX12_layNets 42 = .ok (.iconst 0, 1) := by decide +kernel
theorem dX12_layNets_43 : decode cX12_layNets 43 = .ok (.iastore, 1) := by decide +kernel
theorem dX12_layNets_44 : decode cX12_layNets 44 = .ok (.iinc 3 1, 3) := by decide +kernel
theorem dX12_layNets_47 : decode cX12_layNets 47 = .ok (.goto (-16), 3) := by decide +kernel
theorem dX12_layNets_50 : decode cX12_layNets 50 = .ok (.aload_n 0, 1) := by decide +kernel
theorem dX12_layNets_51 : decode cX12_layNets 51 = .ok (.iconst 0, 1) := by decide +kernel
theorem dX12_layNets_52 : decode cX12_layNets 52 = .ok (.putfield 445, 3) := by decide +kernel
theorem dX12_layNets_55 : decode cX12_layNets 55 = .ok (.aload_n 0, 1) := by decide +kernel
theorem dX12_layNets_56 : decode cX12_layNets 56 = .ok (.iconst (-1), 1) := by decide +kernel
theorem dX12_layNets_57 : decode cX12_layNets 57 = .ok (.putfield 448, 3) := by decide +kernel
theorem dX12_layNets_60 : decode cX12_layNets 60 = .ok (.aload_n 0, 1) := by decide +kernel
theorem dX12_layNets_61 : decode cX12_layNets 61 = .ok (.iconst 0, 1) := by decide +kernel
theorem dX12_layNets_62 : decode cX12_layNets 62 = .ok (.iload_n 2, 1) := by decide +kernel
theorem dX12_layNets_63 : decode cX12_layNets 63 = .ok (.iconst 0, 1) := by decide +kernel
theorem dX12_layNets_64 : decode cX12_layNets 64 = .ok (.iload_n 1, 1) := by decide +kernel
theorem dX12_layNets_65 : decode cX12_layNets 65 = .ok (.invokevirtual 454, 3) := by decide +kernel
theorem dX12_layNets_68 : decode cX12_layNets 68 = .ok (.iload_n 2, 1) := by decide +kernel
theorem dX12_layNets_69 : decode cX12_layNets 69 = .ok (.ireturn, 1) := by decide +kernel
theorem dX12_nets_0 : decode cX12_nets 0 = .ok (.aload_n 0, 1) := by decide +kernel
theorem dX12_nets_1 : decode cX12_nets 1 = .ok (.getfield 52, 3) := by decide +kernel
theorem dX12_nets_4 : decode cX12_nets 4 = .ok (.iconst 0, 1) := by decide +kernel
theorem dX12_nets_5 : decode cX12_nets 5 = .ok (.iaload, 1) := by decide +kernel
theorem dX12_nets_6 : decode cX12_nets 6 = .ok (.ifCond .eq 8, 3) := by decide +kernel
theorem dX12_nets_9 : decode cX12_nets 9 = .ok (.iload_n 1, 1) := by decide +kernel
theorem dX12_nets_10 : decode cX12_nets 10 = .ok (.iconst (-1), 1) := by decide +kernel
theorem dX12_nets_11 : decode cX12_nets 11 = .ok (.if_icmp .ge 5, 3) := by decide +kernel
theorem dX12_nets_14 : decode cX12_nets 14 = .ok (.iconst (-1), 1) := by decide +kernel
theorem dX12_nets_15 : decode cX12_nets 15 = .ok (.ireturn, 1) := by decide +kernel
theorem dX12_nets_16 : decode cX12_nets 16 = .ok (.aload_n 0, 1) := by decide +kernel
theorem dX12_nets_17 : decode cX12_nets 17 = .ok (.iload_n 1, 1) := by decide +kernel
theorem dX12_nets_18 : decode cX12_nets 18 = .ok (.invokevirtual 461, 3) := by decide +kernel
theorem dX12_nets_21 : decode cX12_nets 21 = .ok (.pop, 1) := by decide +kernel
theorem dX12_nets_22 : decode cX12_nets 22 = .ok (.iload_n 1, 1) := by decide +kernel
theorem dX12_nets_23 : decode cX12_nets 23 = .ok (.iconst (-1), 1) := by decide +kernel
theorem dX12_nets_24 : decode cX12_nets 24 = .ok (.if_icmp .ne 10, 3) := by decide +kernel
theorem dX12_nets_27 : decode cX12_nets 27 = .ok (.aload_n 0, 1) := by decide +kernel
theorem dX12_nets_28 : decode cX12_nets 28 = .ok (.getfield 445, 3) := by decide +kernel
theorem dX12_nets_31 : decode cX12_nets 31 = .ok (.goto 7, 3) := by decide +kernel
theorem dX12_nets_34 : decode cX12_nets 34 = .ok (.aload_n 0, 1) := by decide +kernel
theorem dX12_nets_35 : decode cX12_nets 35 = .ok (.getfield 448, 3) := by decide +kernel
theorem dX12_nets_38 : decode cX12_nets 38 = .ok (.ireturn, 1) := by decide +kernel
theorem dX12_could_0 : decode cX12_could 0 = .ok (.aload_n 0, 1) := by decide +kernel
theorem dX12_could_1 : decode cX12_could 1 = .ok (.getfield 52, 3) := by decide +kernel
theorem dX12_could_4 : decode cX12_could 4 = .ok (.iconst 0, 1) := by decide +kernel
theorem dX12_could_5 : decode cX12_could 5 = .ok (.iaload, 1) := by decide +kernel
theorem dX12_could_6 : decode cX12_could 6 = .ok (.ifCond .eq 7, 3) := by decide +kernel
theorem dX12_could_9 : decode cX12_could 9 = .ok (.iload_n 1, 1) := by decide +kernel
theorem dX12_could_10 : decode cX12_could 10 = .ok (.ifCond .ge 5, 3) := by decide +kernel
theorem dX12_could_13 : decode cX12_could 13 = .ok (.iconst (-1), 1) := by decide +kernel
theorem dX12_could_14 : decode cX12_could 14 = .ok (.ireturn, 1) := by decide +kernel
theorem dX12_could_15 : decode cX12_could 15 = .ok (.aload_n 0, 1) := by decide +kernel
theorem dX12_could_16 : decode cX12_could 16 = .ok (.iconst (-1), 1) := by decide +kernel
theorem dX12_could_17 : decode cX12_could 17 = .ok (.invokevirtual 461, 3) := by decide +kernel
theorem dX12_could_20 : decode cX12_could 20 = .ok (.istore_n 2, 1) := by decide +kernel
theorem dX12_could_21 : decode cX12_could 21 = .ok (.iload_n 1, 1) := by decide +kernel
theorem dX12_could_22 : decode cX12_could 22 = .ok (.iload_n 2, 1) := by decide +kernel
theorem dX12_could_23 : decode cX12_could 23 = .ok (.if_icmp .lt 5, 3) := by decide +kernel
theorem dX12_could_26 : decode cX12_could 26 = .ok (.iconst (-1), 1) := by decide +kernel
theorem dX12_could_27 : decode cX12_could 27 = .ok (.ireturn, 1) := by decide +kernel
theorem dX12_could_28 : decode cX12_could 28 = .ok (.iconst 0, 1) := by decide +kernel
theorem dX12_could_29 : decode cX12_could 29 = .ok (.istore_n 3, 1) := by decide +kernel
theorem dX12_could_30 : decode cX12_could 30 = .ok (.iconst 0, 1) := by decide +kernel
theorem dX12_could_31 : decode cX12_could 31 = .ok (.istore 4, 2) := by decide +kernel
theorem dX12_could_33 : decode cX12_could 33 = .ok (.iload 4, 2) := by decide +kernel
theorem dX12_could_35 : decode cX12_could 35 = .ok (.bipush 8, 2) := by decide +kernel
theorem dX12_could_37 : decode cX12_could 37 = .ok (.if_icmp .ge 35, 3) := by decide +kernel
theorem dX12_could_40 : decode cX12_could 40 = .ok (.iload_n 3, 1) := by decide +kernel
theorem dX12_could_41 : decode cX12_could 41 = .ok (.aload_n 0, 1) := by decide +kernel
theorem dX12_could_42 : decode cX12_could 42 = .ok (.getfield 110, 3) := by decide +kernel
theorem dX12_could_45 : decode cX12_could 45 = .ok (.bipush 8, 2) := by decide +kernel
theorem dX12_could_47 : decode cX12_could 47 = .ok (.iload_n 1, 1) := by decide +kernel
theorem dX12_could_48 : decode cX12_could 48 = .ok (.imul, 1) := by decide +kernel
theorem dX12_could_49 : decode cX12_could 49 = .ok (.iload 4, 2) := by decide +kernel
theorem dX12_could_51 : decode cX12_could 51 = .ok (.iadd, 1) := by decide +kernel
theorem dX12_could_52 : decode cX12_could 52 = .ok (.iaload, 1) := by decide +kernel
theorem dX12_could_53 : decode cX12_could 53 = .ok (.ifCond .le 10, 3) := by decide +kernel
theorem dX12_could_56 : decode cX12_could 56 = .ok (.iconst 1, 1) := by decide +kernel
theorem dX12_could_57 : decode cX12_could 57 = .ok (.iload 4, 2) := by decide +kernel
theorem dX12_could_59 : decode cX12_could 59 = .ok (.ishl, 1) := by decide +kernel
theorem dX12_could_60 : decode cX12_could 60 = .ok (.goto 4, 3) := by decide +kernel
theorem dX12_could_63 : decode cX12_could 63 = .ok (.iconst 0, 1) := by decide +kernel
theorem dX12_could_64 : decode cX12_could 64 = .ok (.ior, 1) := by decide +kernel
theorem dX12_could_65 : decode cX12_could 65 = .ok (.istore_n 3, 1) := by decide +kernel
theorem dX12_could_66 : decode cX12_could 66 = .ok (.iinc 4 1, 3) := by decide +kernel
theorem dX12_could_69 : decode cX12_could 69 = .ok (.goto (-36), 3) := by decide +kernel
theorem dX12_could_72 : decode cX12_could 72 = .ok (.iload_n 3, 1) := by decide +kernel
theorem dX12_could_73 : decode cX12_could 73 = .ok (.ireturn, 1) := by decide +kernel
theorem dX12_tells_0 : decode cX12_tells 0 = .ok (.aload_n 0, 1) := by decide +kernel
theorem dX12_tells_1 : decode cX12_tells 1 = .ok (.getfield 52, 3) := by decide +kernel
theorem dX12_tells_4 : decode cX12_tells 4 = .ok (.iconst 0, 1) := by decide +kernel
theorem dX12_tells_5 : decode cX12_tells 5 = .ok (.iaload, 1) := by decide +kernel
theorem dX12_tells_6 : decode cX12_tells 6 = .ok (.ifCond .eq 12, 3) := by decide +kernel
theorem dX12_tells_9 : decode cX12_tells 9 = .ok (.iload_n 1, 1) := by decide +kernel
theorem dX12_tells_10 : decode cX12_tells 10 = .ok (.iconst 0, 1) := by decide +kernel
theorem dX12_tells_11 : decode cX12_tells 11 = .ok (.iconst 1, 1) := by decide +kernel
theorem dX12_tells_12 : decode cX12_tells 12 = .ok (.invokestatic 238, 3) := by decide +kernel
theorem dX12_tells_15 : decode cX12_tells 15 = .ok (.ifCond .ne 5, 3) := by decide +kernel
theorem dX12_tells_18 : decode cX12_tells 18 = .ok (.iconst (-1), 1) := by decide +kernel
theorem dX12_tells_19 : decode cX12_tells 19 = .ok (.ireturn, 1) := by decide +kernel
theorem dX12_tells_20 : decode cX12_tells 20 = .ok (.aload_n 0, 1) := by decide +kernel
theorem dX12_tells_21 : decode cX12_tells 21 = .ok (.iconst (-1), 1) := by decide +kernel
theorem dX12_tells_22 : decode cX12_tells 22 = .ok (.invokevirtual 461, 3) := by decide +kernel
theorem dX12_tells_25 : decode cX12_tells 25 = .ok (.istore_n 2, 1) := by decide +kernel
theorem dX12_tells_26 : decode cX12_tells 26 = .ok (.iconst (-1), 1) := by decide +kernel
theorem dX12_tells_27 : decode cX12_tells 27 = .ok (.istore_n 3, 1) := by decide +kernel
theorem dX12_tells_28 : decode cX12_tells 28 = .ok (.iconst 0, 1) := by decide +kernel
theorem dX12_tells_29 : decode cX12_tells 29 = .ok (.istore 4, 2) := by decide +kernel
theorem dX12_tells_31 : decode cX12_tells 31 = .ok (.iconst 0, 1) := by decide +kernel
theorem dX12_tells_32 : decode cX12_tells 32 = .ok (.istore 5, 2) := by decide +kernel
theorem dX12_tells_34 : decode cX12_tells 34 = .ok (.iload 5, 2) := by decide +kernel
theorem dX12_tells_36 : decode cX12_tells 36 = .ok (.iload_n 2, 1) := by decide +kernel
theorem dX12_tells_37 : decode cX12_tells 37 = .ok (.if_icmp .ge 74, 3) := by decide +kernel
theorem dX12_tells_40 : decode cX12_tells 40 = .ok (.aload_n 0, 1) := by decide +kernel
theorem dX12_tells_41 : decode cX12_tells 41 = .ok (.getfield 445, 3) := by decide +kernel
theorem dX12_tells_44 : decode cX12_tells 44 = .ok (.ifCond .le 67, 3) := by decide +kernel
theorem dX12_tells_47 : decode cX12_tells 47 = .ok (.iconst 0, 1) := by decide +kernel
theorem dX12_tells_48 : decode cX12_tells 48 = .ok (.istore 6, 2) := by decide +kernel
theorem dX12_tells_50 : decode cX12_tells 50 = .ok (.iconst 0, 1) := by decide +kernel
theorem dX12_tells_51 : decode cX12_tells 51 = .ok (.istore 7, 2) := by decide +kernel
theorem dX12_tells_53 : decode cX12_tells 53 = .ok (.iload 7, 2) := by decide +kernel
theorem dX12_tells_55 : decode cX12_tells 55 = .ok (.bipush 8, 2) := by decide +kernel
theorem dX12_tells_57 : decode cX12_tells 57 = .ok (.if_icmp .ge 29, 3) := by decide +kernel
theorem dX12_tells_60 : decode cX12_tells 60 = .ok (.iload 6, 2) := by decide +kernel
theorem dX12_tells_62 : decode cX12_tells 62 = .ok (.aload_n 0, 1) := by decide +kernel
theorem dX12_tells_63 : decode cX12_tells 63 = .ok (.getfield 110, 3) := by decide +kernel
theorem dX12_tells_66 : decode cX12_tells 66 = .ok (.bipush 8, 2) := by decide +kernel
theorem dX12_tells_68 : decode cX12_tells 68 = .ok (.iload 5, 2) := by decide +kernel
theorem dX12_tells_70 : decode cX12_tells 70 = .ok (.imul, 1) := by decide +kernel
theorem dX12_tells_71 : decode cX12_tells 71 = .ok (.iload 7, 2) := by decide +kernel
theorem dX12_tells_73 : decode cX12_tells 73 = .ok (.iadd, 1) := by decide +kernel
theorem dX12_tells_74 : decode cX12_tells 74 = .ok (.iaload, 1) := by decide +kernel
theorem dX12_tells_75 : decode cX12_tells 75 = .ok (.invokestatic 331, 3) := by decide +kernel
theorem dX12_tells_78 : decode cX12_tells 78 = .ok (.istore 6, 2) := by decide +kernel
theorem dX12_tells_80 : decode cX12_tells 80 = .ok (.iinc 7 1, 3) := by decide +kernel
theorem dX12_tells_83 : decode cX12_tells 83 = .ok (.goto (-30), 3) := by decide +kernel
theorem dX12_tells_86 : decode cX12_tells 86 = .ok (.iload_n 3, 1) := by decide +kernel
theorem dX12_tells_87 : decode cX12_tells 87 = .ok (.iconst (-1), 1) := by decide +kernel
theorem dX12_tells_88 : decode cX12_tells 88 = .ok (.if_icmp .eq 10, 3) := by decide +kernel
theorem dX12_tells_91 : decode cX12_tells 91 = .ok (.iload 6, 2) := by decide +kernel
theorem dX12_tells_93 : decode cX12_tells 93 = .ok (.iload 4, 2) := by decide +kernel
theorem dX12_tells_95 : decode cX12_tells 95 = .ok (.if_icmp .ge 10, 3) := by decide +kernel
theorem dX12_tells_98 : decode cX12_tells 98 = .ok (.iload 5, 2) := by decide +kernel
theorem dX12_tells_100 : decode cX12_tells 100 = .ok (.istore_n 3, 1) := by decide +kernel
theorem dX12_tells_101 : decode cX12_tells 101 = .ok (.iload 6, 2) := by decide +kernel
theorem dX12_tells_103 : decode cX12_tells 103 = .ok (.istore 4, 2) := by decide +kernel
theorem dX12_tells_105 : decode cX12_tells 105 = .ok (.iinc 5 1, 3) := by decide +kernel
theorem dX12_tells_108 : decode cX12_tells 108 = .ok (.goto (-74), 3) := by decide +kernel
theorem dX12_tells_111 : decode cX12_tells 111 = .ok (.iload_n 3, 1) := by decide +kernel
theorem dX12_tells_112 : decode cX12_tells 112 = .ok (.iconst (-1), 1) := by decide +kernel
theorem dX12_tells_113 : decode cX12_tells 113 = .ok (.if_icmp .ne 7, 3) := by decide +kernel
theorem dX12_tells_116 : decode cX12_tells 116 = .ok (.iconst (-1), 1) := by decide +kernel
theorem dX12_tells_117 : decode cX12_tells 117 = .ok (.goto 13, 3) := by decide +kernel
theorem dX12_tells_120 : decode cX12_tells 120 = .ok (.iload_n 1, 1) := by decide +kernel
theorem dX12_tells_121 : decode cX12_tells 121 = .ok (.ifCond .ne 7, 3) := by decide +kernel
theorem dX12_tells_124 : decode cX12_tells 124 = .ok (.iload_n 3, 1) := by decide +kernel
theorem dX12_tells_125 : decode cX12_tells 125 = .ok (.goto 5, 3) := by decide +kernel
theorem dX12_tells_128 : decode cX12_tells 128 = .ok (.iload 4, 2) := by decide +kernel
theorem dX12_tells_130 : decode cX12_tells 130 = .ok (.ireturn, 1) := by decide +kernel
theorem dX12_comesOut_0 : decode cX12_comesOut 0 = .ok (.iconst 0, 1) := by decide +kernel
theorem dX12_comesOut_1 : decode cX12_comesOut 1 = .ok (.istore 5, 2) := by decide +kernel
theorem dX12_comesOut_3 : decode cX12_comesOut 3 = .ok (.iload_n 1, 1) := by decide +kernel
theorem dX12_comesOut_4 : decode cX12_comesOut 4 = .ok (.istore 6, 2) := by decide +kernel
theorem dX12_comesOut_6 : decode cX12_comesOut 6 = .ok (.iload 5, 2) := by decide +kernel
theorem dX12_comesOut_8 : decode cX12_comesOut 8 = .ok (.iload_n 3, 1) := by decide +kernel
theorem dX12_comesOut_9 : decode cX12_comesOut 9 = .ok (.if_icmp .ge 38, 3) := by decide +kernel
theorem dX12_comesOut_12 : decode cX12_comesOut 12 = .ok (.aload_n 0, 1) := by decide +kernel
theorem dX12_comesOut_13 : decode cX12_comesOut 13 = .ok (.iload_n 2, 1) := by decide +kernel
theorem dX12_comesOut_14 : decode cX12_comesOut 14 = .ok (.iload 5, 2) := by decide +kernel
theorem dX12_comesOut_16 : decode cX12_comesOut 16 = .ok (.invokevirtual 346, 3) := by decide +kernel
theorem dX12_comesOut_19 : decode cX12_comesOut 19 = .ok (.istore 7, 2) := by decide +kernel
theorem dX12_comesOut_21 : decode cX12_comesOut 21 = .ok (.iload 5, 2) := by decide +kernel
theorem dX12_comesOut_23 : decode cX12_comesOut 23 = .ok (.aload_n 0, 1) := by decide +kernel
theorem dX12_comesOut_24 : decode cX12_comesOut 24 = .ok (.iload 6, 2) := by decide +kernel
theorem dX12_comesOut_26 : decode cX12_comesOut 26 = .ok (.iload 7, 2) := by decide +kernel
theorem dX12_comesOut_28 : decode cX12_comesOut 28 = .ok (.invokevirtual 320, 3) := by decide +kernel
theorem dX12_comesOut_31 : decode cX12_comesOut 31 = .ok (.iadd, 1) := by decide +kernel
theorem dX12_comesOut_32 : decode cX12_comesOut 32 = .ok (.istore 5, 2) := by decide +kernel
theorem dX12_comesOut_34 : decode cX12_comesOut 34 = .ok (.aload_n 0, 1) := by decide +kernel
theorem dX12_comesOut_35 : decode cX12_comesOut 35 = .ok (.iload 6, 2) := by decide +kernel
theorem dX12_comesOut_37 : decode cX12_comesOut 37 = .ok (.iload 7, 2) := by decide +kernel
theorem dX12_comesOut_39 : decode cX12_comesOut 39 = .ok (.invokevirtual 323, 3) := by decide +kernel
theorem dX12_comesOut_42 : decode cX12_comesOut 42 = .ok (.istore 6, 2) := by decide +kernel
theorem dX12_comesOut_44 : decode cX12_comesOut 44 = .ok (.goto (-38), 3) := by decide +kernel
theorem dX12_comesOut_47 : decode cX12_comesOut 47 = .ok (.iload 5, 2) := by decide +kernel
theorem dX12_comesOut_49 : decode cX12_comesOut 49 = .ok (.iload_n 3, 1) := by decide +kernel
theorem dX12_comesOut_50 : decode cX12_comesOut 50 = .ok (.if_icmp .ne 14, 3) := by decide +kernel
theorem dX12_comesOut_53 : decode cX12_comesOut 53 = .ok (.iload 6, 2) := by decide +kernel
theorem dX12_comesOut_55 : decode cX12_comesOut 55 = .ok (.iload 4, 2) := by decide +kernel
theorem dX12_comesOut_57 : decode cX12_comesOut 57 = .ok (.if_icmp .ne 7, 3) := by decide +kernel
theorem dX12_comesOut_60 : decode cX12_comesOut 60 = .ok (.iconst 1, 1) := by decide +kernel
theorem dX12_comesOut_61 : decode cX12_comesOut 61 = .ok (.goto 4, 3) := by decide +kernel
theorem dX12_comesOut_64 : decode cX12_comesOut 64 = .ok (.iconst 0, 1) := by decide +kernel
theorem dX12_comesOut_65 : decode cX12_comesOut 65 = .ok (.ireturn, 1) := by decide +kernel
theorem dX12_yards_0 : decode cX12_yards 0 = .ok (.aload_n 0, 1) := by decide +kernel
theorem dX12_yards_1 : decode cX12_yards 1 = .ok (.iload_n 1, 1) := by decide +kernel
theorem dX12_yards_2 : decode cX12_yards 2 = .ok (.invokevirtual 333, 3) := by decide +kernel
theorem dX12_yards_5 : decode cX12_yards 5 = .ok (.ifCond .eq 21, 3) := by decide +kernel
theorem dX12_yards_8 : decode cX12_yards 8 = .ok (.aload_n 0, 1) := by decide +kernel
theorem dX12_yards_9 : decode cX12_yards 9 = .ok (.iload_n 2, 1) := by decide +kernel
theorem dX12_yards_10 : decode cX12_yards 10 = .ok (.invokevirtual 336, 3) := by decide +kernel
theorem dX12_yards_13 : decode cX12_yards 13 = .ok (.ifCond .eq 13, 3) := by decide +kernel
theorem dX12_yards_16 : decode cX12_yards 16 = .ok (.iload_n 3, 1) := by decide +kernel
theorem dX12_yards_17 : decode cX12_yards 17 = .ok (.iconst 0, 1) := by decide +kernel
theorem dX12_yards_18 : decode cX12_yards 18 = .ok (.bipush 60, 2) := by decide +kernel
theorem dX12_yards_20 : decode cX12_yards 20 = .ok (.invokestatic 238, 3) := by decide +kernel
theorem dX12_yards_23 : decode cX12_yards 23 = .ok (.ifCond .ne 5, 3) := by decide +kernel
theorem dX12_yards_26 : decode cX12_yards 26 = .ok (.iconst (-1), 1) := by decide +kernel
theorem dX12_yards_27 : decode cX12_yards 27 = .ok (.ireturn, 1) := by decide +kernel
theorem dX12_yards_28 : decode cX12_yards 28 = .ok (.iconst 0, 1) := by decide +kernel
theorem dX12_yards_29 : decode cX12_yards 29 = .ok (.istore 4, 2) := by decide +kernel
theorem dX12_yards_31 : decode cX12_yards 31 = .ok (.iconst 0, 1) := by decide +kernel
theorem dX12_yards_32 : decode cX12_yards 32 = .ok (.istore 5, 2) := by decide +kernel
theorem dX12_yards_34 : decode cX12_yards 34 = .ok (.iload 5, 2) := by decide +kernel
theorem dX12_yards_36 : decode cX12_yards 36 = .ok (.aload_n 0, 1) := by decide +kernel
theorem dX12_yards_37 : decode cX12_yards 37 = .ok (.getfield 52, 3) := by decide +kernel
theorem dX12_yards_40 : decode cX12_yards 40 = .ok (.iconst 0, 1) := by decide +kernel
theorem dX12_yards_41 : decode cX12_yards 41 = .ok (.iaload, 1) := by decide +kernel
theorem dX12_yards_42 : decode cX12_yards 42 = .ok (.if_icmp .ge 34, 3) := by decide +kernel
theorem dX12_yards_45 : decode cX12_yards 45 = .ok (.iload 4, 2) := by decide +kernel
theorem dX12_yards_47 : decode cX12_yards 47 = .ok (.aload_n 0, 1) := by decide +kernel
theorem dX12_yards_48 : decode cX12_yards 48 = .ok (.iload 5, 2) := by decide +kernel
theorem dX12_yards_50 : decode cX12_yards 50 = .ok (.iload_n 2, 1) := by decide +kernel
theorem dX12_yards_51 : decode cX12_yards 51 = .ok (.iload_n 3, 1) := by decide +kernel
theorem dX12_yards_52 : decode cX12_yards 52 = .ok (.iload_n 1, 1) := by decide +kernel
theorem dX12_yards_53 : decode cX12_yards 53 = .ok (.invokevirtual 464, 3) := by decide +kernel
theorem dX12_yards_56 : decode cX12_yards 56 = .ok (.ifCond .eq 10, 3) := by decide +kernel
theorem dX12_yards_59 : decode cX12_yards 59 = .ok (.iconst 1, 1) := by decide +kernel
theorem dX12_yards_60 : decode cX12_yards 60 = .ok (.iload 5, 2) := by decide +kernel
theorem dX12_yards_62 : decode cX12_yards 62 = .ok (.ishl, 1) := by decide +kernel
theorem dX12_yards_63 : decode cX12_yards 63 = .ok (.goto 4, 3) := by decide +kernel
theorem dX12_yards_66 : decode cX12_yards 66 = .ok (.iconst 0, 1) := by decide +kernel
theorem dX12_yards_67 : decode cX12_yards 67 = .ok (.ior, 1) := by decide +kernel
theorem dX12_yards_68 : decode cX12_yards 68 = .ok (.istore 4, 2) := by decide +kernel
theorem dX12_yards_70 : decode cX12_yards 70 = .ok (.iinc 5 1, 3) := by decide +kernel
theorem dX12_yards_73 : decode cX12_yards 73 = .ok (.goto (-39), 3) := by decide +kernel
theorem dX12_yards_76 : decode cX12_yards 76 = .ok (.iload 4, 2) := by decide +kernel
theorem dX12_yards_78 : decode cX12_yards 78 = .ok (.ireturn, 1) := by decide +kernel
theorem dX12_guarded_0 : decode cX12_guarded 0 = .ok (.iconst 0, 1) := by decide +kernel
theorem dX12_guarded_1 : decode cX12_guarded 1 = .ok (.istore_n 1, 1) := by decide +kernel
theorem dX12_guarded_2 : decode cX12_guarded 2 = .ok (.iconst 0, 1) := by decide +kernel
theorem dX12_guarded_3 : decode cX12_guarded 3 = .ok (.istore_n 2, 1) := by decide +kernel
theorem dX12_guarded_4 : decode cX12_guarded 4 = .ok (.iload_n 2, 1) := by decide +kernel
theorem dX12_guarded_5 : decode cX12_guarded 5 = .ok (.aload_n 0, 1) := by decide +kernel
theorem dX12_guarded_6 : decode cX12_guarded 6 = .ok (.getfield 52, 3) := by decide +kernel
theorem dX12_guarded_9 : decode cX12_guarded 9 = .ok (.iconst 0, 1) := by decide +kernel
theorem dX12_guarded_10 : decode cX12_guarded 10 = .ok (.iaload, 1) := by decide +kernel
theorem dX12_guarded_11 : decode cX12_guarded 11 = .ok (.if_icmp .ge 31, 3) := by decide +kernel
theorem dX12_guarded_14 : decode cX12_guarded 14 = .ok (.iload_n 1, 1) := by decide +kernel
theorem dX12_guarded_15 : decode cX12_guarded 15 = .ok (.aload_n 0, 1) := by decide +kernel
theorem dX12_guarded_16 : decode cX12_guarded 16 = .ok (.getfield 58, 3) := by decide +kernel
theorem dX12_guarded_19 : decode cX12_guarded 19 = .ok (.bipush 80, 2) := by decide +kernel
theorem dX12_guarded_21 : decode cX12_guarded 21 = .ok (.iload_n 2, 1) := by decide +kernel
theorem dX12_guarded_22 : decode cX12_guarded 22 = .ok (.iadd, 1) := by decide +kernel
theorem dX12_guarded_23 : decode cX12_guarded 23 = .ok (.iaload, 1) := by decide +kernel
theorem dX12_guarded_24 : decode cX12_guarded 24 = .ok (.ifCond .le 9, 3) := by decide +kernel
theorem dX12_guarded_27 : decode cX12_guarded 27 = .ok (.iconst 1, 1) := by decide +kernel
theorem dX12_guarded_28 : decode cX12_guarded 28 = .ok (.iload_n 2, 1) := by decide +kernel
theorem dX12_guarded_29 : decode cX12_guarded 29 = .ok (.ishl, 1) := by decide +kernel
theorem dX12_guarded_30 : decode cX12_guarded 30 = .ok (.goto 4, 3) := by decide +kernel
theorem dX12_guarded_33 : decode cX12_guarded 33 = .ok (.iconst 0, 1) := by decide +kernel
theorem dX12_guarded_34 : decode cX12_guarded 34 = .ok (.ior, 1) := by decide +kernel
theorem dX12_guarded_35 : decode cX12_guarded 35 = .ok (.istore_n 1, 1) := by decide +kernel
theorem dX12_guarded_36 : decode cX12_guarded 36 = .ok (.iinc 2 1, 3) := by decide +kernel
theorem dX12_guarded_39 : decode cX12_guarded 39 = .ok (.goto (-35), 3) := by decide +kernel
theorem dX12_guarded_42 : decode cX12_guarded 42 = .ok (.iload_n 1, 1) := by decide +kernel
theorem dX12_guarded_43 : decode cX12_guarded 43 = .ok (.ireturn, 1) := by decide +kernel
theorem dX12_unseen_0 : decode cX12_unseen 0 = .ok (.aload_n 0, 1) := by decide +kernel
theorem dX12_unseen_1 : decode cX12_unseen 1 = .ok (.iload_n 1, 1) := by decide +kernel
theorem dX12_unseen_2 : decode cX12_unseen 2 = .ok (.iload_n 2, 1) := by decide +kernel
theorem dX12_unseen_3 : decode cX12_unseen 3 = .ok (.invokevirtual 392, 3) := by decide +kernel
theorem dX12_unseen_6 : decode cX12_unseen 6 = .ok (.ifCond .ne 5, 3) := by decide +kernel
theorem dX12_unseen_9 : decode cX12_unseen 9 = .ok (.iconst (-1), 1) := by decide +kernel
theorem dX12_unseen_10 : decode cX12_unseen 10 = .ok (.ireturn, 1) := by decide +kernel
theorem dX12_unseen_11 : decode cX12_unseen 11 = .ok (.aload_n 0, 1) := by decide +kernel
theorem dX12_unseen_12 : decode cX12_unseen 12 = .ok (.iload_n 2, 1) := by decide +kernel
theorem dX12_unseen_13 : decode cX12_unseen 13 = .ok (.aload_n 0, 1) := by decide +kernel
theorem dX12_unseen_14 : decode cX12_unseen 14 = .ok (.invokevirtual 385, 3) := by decide +kernel
theorem dX12_unseen_17 : decode cX12_unseen 17 = .ok (.iconst 0, 1) := by decide +kernel
theorem dX12_unseen_18 : decode cX12_unseen 18 = .ok (.aload_n 0, 1) := by decide +kernel
theorem dX12_unseen_19 : decode cX12_unseen 19 = .ok (.invokevirtual 468, 3) := by decide +kernel
theorem dX12_unseen_22 : decode cX12_unseen 22 = .ok (.iconst 1, 1) := by decide +kernel
theorem dX12_unseen_23 : decode cX12_unseen 23 = .ok (.iload_n 1, 1) := by decide +kernel
theorem dX12_unseen_24 : decode cX12_unseen 24 = .ok (.ishl, 1) := by decide +kernel
theorem dX12_unseen_25 : decode cX12_unseen 25 = .ok (.iconst (-1), 1) := by decide +kernel
theorem dX12_unseen_26 : decode cX12_unseen 26 = .ok (.ixor, 1) := by decide +kernel
theorem dX12_unseen_27 : decode cX12_unseen 27 = .ok (.iand, 1) := by decide +kernel
theorem dX12_unseen_28 : decode cX12_unseen 28 = .ok (.invokevirtual 405, 3) := by decide +kernel
theorem dX12_unseen_31 : decode cX12_unseen 31 = .ok (.aload_n 0, 1) := by decide +kernel
theorem dX12_unseen_32 : decode cX12_unseen 32 = .ok (.getfield 80, 3) := by decide +kernel
theorem dX12_unseen_35 : decode cX12_unseen 35 = .ok (.iload_n 1, 1) := by decide +kernel
theorem dX12_unseen_36 : decode cX12_unseen 36 = .ok (.iaload, 1) := by decide +kernel
theorem dX12_unseen_37 : decode cX12_unseen 37 = .ok (.ldc_w 388, 3) := by decide +kernel
theorem dX12_unseen_40 : decode cX12_unseen 40 = .ok (.if_icmp .ne 7, 3) := by decide +kernel
theorem dX12_unseen_43 : decode cX12_unseen 43 = .ok (.iconst (-1), 1) := by decide +kernel
theorem dX12_unseen_44 : decode cX12_unseen 44 = .ok (.goto 9, 3) := by decide +kernel
theorem dX12_unseen_47 : decode cX12_unseen 47 = .ok (.aload_n 0, 1) := by decide +kernel
theorem dX12_unseen_48 : decode cX12_unseen 48 = .ok (.getfield 80, 3) := by decide +kernel
theorem dX12_unseen_51 : decode cX12_unseen 51 = .ok (.iload_n 1, 1) := by decide +kernel
theorem dX12_unseen_52 : decode cX12_unseen 52 = .ok (.iaload, 1) := by decide +kernel
theorem dX12_unseen_53 : decode cX12_unseen 53 = .ok (.ireturn, 1) := by decide +kernel
theorem dX12_posts_0 : decode cX12_posts 0 = .ok (.aload_n 0, 1) := by decide +kernel
theorem dX12_posts_1 : decode cX12_posts 1 = .ok (.iload_n 1, 1) := by decide +kernel
theorem dX12_posts_2 : decode cX12_posts 2 = .ok (.iload_n 2, 1) := by decide +kernel
theorem dX12_posts_3 : decode cX12_posts 3 = .ok (.invokevirtual 392, 3) := by decide +kernel
theorem dX12_posts_6 : decode cX12_posts 6 = .ok (.ifCond .eq 8, 3) := by decide +kernel
theorem dX12_posts_9 : decode cX12_posts 9 = .ok (.iload_n 1, 1) := by decide +kernel
theorem dX12_posts_10 : decode cX12_posts 10 = .ok (.iload_n 2, 1) := by decide +kernel
theorem dX12_posts_11 : decode cX12_posts 11 = .ok (.if_icmp .ne 5, 3) := by decide +kernel
theorem dX12_posts_14 : decode cX12_posts 14 = .ok (.iconst (-1), 1) := by decide +kernel
theorem dX12_posts_15 : decode cX12_posts 15 = .ok (.ireturn, 1) := by decide +kernel
theorem dX12_posts_16 : decode cX12_posts 16 = .ok (.iconst (-1), 1) := by decide +kernel
theorem dX12_posts_17 : decode cX12_posts 17 = .ok (.istore_n 3, 1) := by decide +kernel
theorem dX12_posts_18 : decode cX12_posts 18 = .ok (.iconst 0, 1) := by decide +kernel
theorem dX12_posts_19 : decode cX12_posts 19 = .ok (.istore 4, 2) := by decide +kernel
theorem dX12_posts_21 : decode cX12_posts 21 = .ok (.iload 4, 2) := by decide +kernel
theorem dX12_posts_23 : decode cX12_posts 23 = .ok (.iconst 1, 1) := by decide +kernel
theorem dX12_posts_24 : decode cX12_posts 24 = .ok (.aload_n 0, 1) := by decide +kernel
theorem dX12_posts_25 : decode cX12_posts 25 = .ok (.getfield 52, 3) := by decide +kernel
theorem dX12_posts_28 : decode cX12_posts 28 = .ok (.iconst 0, 1) := by decide +kernel
theorem dX12_posts_29 : decode cX12_posts 29 = .ok (.iaload, 1) := by decide +kernel
theorem dX12_posts_30 : decode cX12_posts 30 = .ok (.ishl, 1) := by decide +kernel
theorem dX12_posts_31 : decode cX12_posts 31 = .ok (.if_icmp .ge 78, 3) := by decide +kernel
theorem dX12_posts_34 : decode cX12_posts 34 = .ok (.iload 4, 2) := by decide +kernel
theorem dX12_posts_36 : decode cX12_posts 36 = .ok (.iload_n 1, 1) := by decide +kernel
theorem dX12_posts_37 : decode cX12_posts 37 = .ok (.invokestatic 249, 3) := by decide +kernel
theorem dX12_posts_40 : decode cX12_posts 40 = .ok (.ifCond .ne 63, 3) := by decide +kernel
theorem dX12_posts_43 : decode cX12_posts 43 = .ok (.iload 4, 2) := by decide +kernel
theorem dX12_posts_45 : decode cX12_posts 45 = .ok (.iload_n 2, 1) := by decide +kernel
theorem dX12_posts_46 : decode cX12_posts 46 = .ok (.invokestatic 249, 3) := by decide +kernel
theorem dX12_posts_49 : decode cX12_posts 49 = .ok (.ifCond .ne 54, 3) := by decide +kernel
theorem dX12_posts_52 : decode cX12_posts 52 = .ok (.iload 4, 2) := by decide +kernel
theorem dX12_posts_54 : decode cX12_posts 54 = .ok (.iload_n 3, 1) := by decide +kernel
theorem dX12_posts_55 : decode cX12_posts 55 = .ok (.invokestatic 417, 3) := by decide +kernel
theorem dX12_posts_58 : decode cX12_posts 58 = .ok (.ifCond .eq 45, 3) := by decide +kernel
theorem dX12_posts_61 : decode cX12_posts 61 = .ok (.aload_n 0, 1) := by decide +kernel
theorem dX12_posts_62 : decode cX12_posts 62 = .ok (.iload_n 2, 1) := by decide +kernel
theorem dX12_posts_63 : decode cX12_posts 63 = .ok (.aload_n 0, 1) := by decide +kernel
theorem dX12_posts_64 : decode cX12_posts 64 = .ok (.invokevirtual 385, 3) := by decide +kernel
theorem dX12_posts_67 : decode cX12_posts 67 = .ok (.iconst 0, 1) := by decide +kernel
theorem dX12_posts_68 : decode cX12_posts 68 = .ok (.aload_n 0, 1) := by decide +kernel
theorem dX12_posts_69 : decode cX12_posts 69 = .ok (.invokevirtual 468, 3) := by decide +kernel
theorem dX12_posts_72 : decode cX12_posts 72 = .ok (.iload 4, 2) := by decide +kernel
theorem dX12_posts_74 : decode cX12_posts 74 = .ok (.ior, 1) := by decide +kernel
theorem dX12_posts_75 : decode cX12_posts 75 = .ok (.iconst 1, 1) := by decide +kernel
theorem dX12_posts_76 : decode cX12_posts 76 = .ok (.iload_n 1, 1) := by decide +kernel
theorem dX12_posts_77 : decode cX12_posts 77 = .ok (.ishl, 1) := by decide +kernel
theorem dX12_posts_78 : decode cX12_posts 78 = .ok (.iconst (-1), 1) := by decide +kernel
theorem dX12_posts_79 : decode cX12_posts 79 = .ok (.ixor, 1) := by decide +kernel
theorem dX12_posts_80 : decode cX12_posts 80 = .ok (.iand, 1) := by decide +kernel
theorem dX12_posts_81 : decode cX12_posts 81 = .ok (.invokevirtual 405, 3) := by decide +kernel
theorem dX12_posts_84 : decode cX12_posts 84 = .ok (.aload_n 0, 1) := by decide +kernel
theorem dX12_posts_85 : decode cX12_posts 85 = .ok (.getfield 80, 3) := by decide +kernel
theorem dX12_posts_88 : decode cX12_posts 88 = .ok (.iload_n 1, 1) := by decide +kernel
theorem dX12_posts_89 : decode cX12_posts 89 = .ok (.iaload, 1) := by decide +kernel
theorem dX12_posts_90 : decode cX12_posts 90 = .ok (.ldc_w 388, 3) := by decide +kernel
theorem dX12_posts_93 : decode cX12_posts 93 = .ok (.if_icmp .ne 8, 3) := by decide +kernel
theorem dX12_posts_96 : decode cX12_posts 96 = .ok (.iload 4, 2) := by decide +kernel
theorem dX12_posts_98 : decode cX12_posts 98 = .ok (.goto 4, 3) := by decide +kernel
theorem dX12_posts_101 : decode cX12_posts 101 = .ok (.iload_n 3, 1) := by decide +kernel
theorem dX12_posts_102 : decode cX12_posts 102 = .ok (.istore_n 3, 1) := by decide +kernel
theorem dX12_posts_103 : decode cX12_posts 103 = .ok (.iinc 4 1, 3) := by decide +kernel
theorem dX12_posts_106 : decode cX12_posts 106 = .ok (.goto (-85), 3) := by decide +kernel
theorem dX12_posts_109 : decode cX12_posts 109 = .ok (.iload_n 3, 1) := by decide +kernel
theorem dX12_posts_110 : decode cX12_posts 110 = .ok (.ireturn, 1) := by decide +kernel
theorem dX12_areTogether_0 : decode cX12_areTogether 0 = .ok (.iconst 0, 1) := by decide +kernel
theorem dX12_areTogether_1 : decode cX12_areTogether 1 = .ok (.istore_n 1, 1) := by decide +kernel
theorem dX12_areTogether_2 : decode cX12_areTogether 2 = .ok (.iload_n 1, 1) := by decide +kernel
theorem dX12_areTogether_3 : decode cX12_areTogether 3 = .ok (.bipush 8, 2) := by decide +kernel
theorem dX12_areTogether_5 : decode cX12_areTogether 5 = .ok (.if_icmp .ge 25, 3) := by decide +kernel
theorem dX12_areTogether_8 : decode cX12_areTogether 8 = .ok (.aload_n 0, 1) := by decide +kernel
theorem dX12_areTogether_9 : decode cX12_areTogether 9 = .ok (.getfield 113, 3) := by decide +kernel
theorem dX12_areTogether_12 : decode cX12_areTogether 12 = .ok (.bipush 8, 2) := by decide +kernel
theorem dX12_areTogether_14 : decode cX12_areTogether 14 = .ok (.iload_n 1, 1) := by decide +kernel
theorem dX12_areTogether_15 : decode cX12_areTogether 15 = .ok (.imul, 1) := by decide +kernel
theorem dX12_areTogether_16 : decode cX12_areTogether 16 = .ok (.iload_n 1, 1) := by decide +kernel
theorem dX12_areTogether_17 : decode cX12_areTogether 17 = .ok (.iadd, 1) := by decide +kernel
theorem dX12_areTogether_18 : decode cX12_areTogether 18 = .ok (.baload, 1) := by decide +kernel
theorem dX12_areTogether_19 : decode cX12_areTogether 19 = .ok (.ifCond .eq 5, 3) := by decide +kernel
theorem dX12_areTogether_22 : decode cX12_areTogether 22 = .ok (.iconst 1, 1) := by decide +kernel
theorem dX12_areTogether_23 : decode cX12_areTogether 23 = .ok (.ireturn, 1) := by decide +kernel
theorem dX12_areTogether_24 : decode cX12_areTogether 24 = .ok (.iinc 1 1, 3) := by decide +kernel
theorem dX12_areTogether_27 : decode cX12_areTogether 27 = .ok (.goto (-25), 3) := by decide +kernel
theorem dX12_areTogether_30 : decode cX12_areTogether 30 = .ok (.iconst 0, 1) := by decide +kernel
theorem dX12_areTogether_31 : decode cX12_areTogether 31 = .ok (.ireturn, 1) := by decide +kernel
theorem dX12_goTogether_0 : decode cX12_goTogether 0 = .ok (.iconst 0, 1) := by decide +kernel
theorem dX12_goTogether_1 : decode cX12_goTogether 1 = .ok (.istore_n 2, 1) := by decide +kernel
theorem dX12_goTogether_2 : decode cX12_goTogether 2 = .ok (.iload_n 2, 1) := by decide +kernel
theorem dX12_goTogether_3 : decode cX12_goTogether 3 = .ok (.bipush 64, 2) := by decide +kernel
theorem dX12_goTogether_5 : decode cX12_goTogether 5 = .ok (.if_icmp .ge 21, 3) := by decide +kernel
theorem dX12_goTogether_8 : decode cX12_goTogether 8 = .ok (.aload_n 0, 1) := by decide +kernel
theorem dX12_goTogether_9 : decode cX12_goTogether 9 = .ok (.getfield 117, 3) := by decide +kernel
theorem dX12_goTogether_12 : decode cX12_goTogether 12 = .ok (.iload_n 2, 1) := by decide +kernel
theorem dX12_goTogether_13 : decode cX12_goTogether 13 = .ok (.aload_n 0, 1) := by decide +kernel
theorem dX12_goTogether_14 : decode cX12_goTogether 14 = .ok (.getfield 113, 3) := by decide +kernel
theorem dX12_goTogether_17 : decode cX12_goTogether 17 = .ok (.iload_n 2, 1) := by decide +kernel
theorem dX12_goTogether_18 : decode cX12_goTogether 18 = .ok (.baload, 1) := by decide +kernel
theorem dX12_goTogether_19 : decode cX12_goTogether 19 = .ok (.bastore, 1) := by decide +kernel
theorem dX12_goTogether_20 : decode cX12_goTogether 20 = .ok (.iinc 2 1, 3) := by decide +kernel
theorem dX12_goTogether_23 : decode cX12_goTogether 23 = .ok (.goto (-21), 3) := by decide +kernel
theorem dX12_goTogether_26 : decode cX12_goTogether 26 = .ok (.iconst 0, 1) := by decide +kernel
theorem dX12_goTogether_27 : decode cX12_goTogether 27 = .ok (.istore_n 2, 1) := by decide +kernel
theorem dX12_goTogether_28 : decode cX12_goTogether 28 = .ok (.iload_n 2, 1) := by decide +kernel
theorem dX12_goTogether_29 : decode cX12_goTogether 29 = .ok (.bipush 64, 2) := by decide +kernel
theorem dX12_goTogether_31 : decode cX12_goTogether 31 = .ok (.if_icmp .ge 72, 3) := by decide +kernel
theorem dX12_goTogether_34 : decode cX12_goTogether 34 = .ok (.iconst 0, 1) := by decide +kernel
theorem dX12_goTogether_35 : decode cX12_goTogether 35 = .ok (.istore_n 3, 1) := by decide +kernel
theorem dX12_goTogether_36 : decode cX12_goTogether 36 = .ok (.aload_n 0, 1) := by decide +kernel
theorem dX12_goTogether_37 : decode cX12_goTogether 37 = .ok (.getfield 113, 3) := by decide +kernel
theorem dX12_goTogether_40 : decode cX12_goTogether 40 = .ok (.iload_n 2, 1) := by decide +kernel
theorem dX12_goTogether_41 : decode cX12_goTogether 41 = .ok (.baload, 1) := by decide +kernel
theorem dX12_goTogether_42 : decode cX12_goTogether 42 = .ok (.ifCond .eq 55, 3) := by decide +kernel
theorem dX12_goTogether_45 : decode cX12_goTogether 45 = .ok (.iload_n 3, 1) := by decide +kernel
theorem dX12_goTogether_46 : decode cX12_goTogether 46 = .ok (.aload_n 0, 1) := by decide +kernel
theorem dX12_goTogether_47 : decode cX12_goTogether 47 = .ok (.getfield 52, 3) := by decide +kernel
theorem dX12_goTogether_50 : decode cX12_goTogether 50 = .ok (.iconst 1, 1) := by decide +kernel
theorem dX12_goTogether_51 : decode cX12_goTogether 51 = .ok (.iaload, 1) := by decide +kernel
theorem dX12_goTogether_52 : decode cX12_goTogether 52 = .ok (.if_icmp .ge 45, 3) := by decide +kernel
theorem dX12_goTogether_55 : decode cX12_goTogether 55 = .ok (.iload_n 1, 1) := by decide +kernel
theorem dX12_goTogether_56 : decode cX12_goTogether 56 = .ok (.iload_n 3, 1) := by decide +kernel
theorem dX12_goTogether_57 : decode cX12_goTogether 57 = .ok (.invokestatic 249, 3) := by decide +kernel
theorem dX12_goTogether_60 : decode cX12_goTogether 60 = .ok (.ifCond .eq 31, 3) := by decide +kernel
theorem dX12_goTogether_63 : decode cX12_goTogether 63 = .ok (.aload_n 0, 1) := by decide +kernel
theorem dX12_goTogether_64 : decode cX12_goTogether 64 = .ok (.getfield 117, 3) := by decide +kernel
theorem dX12_goTogether_67 : decode cX12_goTogether 67 = .ok (.bipush 8, 2) := by decide +kernel
theorem dX12_goTogether_69 : decode cX12_goTogether 69 = .ok (.aload_n 0, 1) := by decide +kernel
theorem dX12_goTogether_70 : decode cX12_goTogether 70 = .ok (.iload_n 2, 1) := by decide +kernel
theorem dX12_goTogether_71 : decode cX12_goTogether 71 = .ok (.bipush 8, 2) := by decide +kernel
theorem dX12_goTogether_73 : decode cX12_goTogether 73 = .ok (.idiv, 1) := by decide +kernel
theorem dX12_goTogether_74 : decode cX12_goTogether 74 = .ok (.iload_n 3, 1) := by decide +kernel
theorem dX12_goTogether_75 : decode cX12_goTogether 75 = .ok (.invokevirtual 323, 3) := by decide +kernel
theorem dX12_goTogether_78 : decode cX12_goTogether 78 = .ok (.imul, 1) := by decide +kernel
theorem dX12_goTogether_79 : decode cX12_goTogether 79 = .ok (.aload_n 0, 1) := by decide +kernel
theorem dX12_goTogether_80 : decode cX12_goTogether 80 = .ok (.iload_n 2, 1) := by decide +kernel
theorem dX12_goTogether_81 : decode cX12_goTogether 81 = .ok (.bipush 8, 2) := by decide +kernel
theorem dX12_goTogether_83 : decode cX12_goTogether 83 = .ok (.irem, 1) := by decide +kernel
theorem dX12_goTogether_84 : decode cX12_goTogether 84 = .ok (.iload_n 3, 1) := by decide +kernel
theorem dX12_goTogether_85 : decode cX12_goTogether 85 = .ok (.invokevirtual 323, 3) := by decide +kernel
theorem dX12_goTogether_88 : decode cX12_goTogether 88 = .ok (.iadd, 1) := by decide +kernel
theorem dX12_goTogether_89 : decode cX12_goTogether 89 = .ok (.iconst 1, 1) := by decide +kernel
theorem dX12_goTogether_90 : decode cX12_goTogether 90 = .ok (.bastore, 1) := by decide +kernel
theorem dX12_goTogether_91 : decode cX12_goTogether 91 = .ok (.iinc 3 1, 3) := by decide +kernel
theorem dX12_goTogether_94 : decode cX12_goTogether 94 = .ok (.goto (-58), 3) := by decide +kernel
theorem dX12_goTogether_97 : decode cX12_goTogether 97 = .ok (.iinc 2 1, 3) := by decide +kernel
theorem dX12_goTogether_100 : decode cX12_goTogether 100 = .ok (.goto (-72), 3) := by decide +kernel
theorem dX12_goTogether_103 : decode cX12_goTogether 103 = .ok (.iconst 0, 1) := by decide +kernel
theorem dX12_goTogether_104 : decode cX12_goTogether 104 = .ok (.istore_n 2, 1) := by decide +kernel
theorem dX12_goTogether_105 : decode cX12_goTogether 105 = .ok (.iload_n 2, 1) := by decide +kernel
theorem dX12_goTogether_106 : decode cX12_goTogether 106 = .ok (.bipush 64, 2) := by decide +kernel
theorem dX12_goTogether_108 : decode cX12_goTogether 108 = .ok (.if_icmp .ge 21, 3) := by decide +kernel
theorem dX12_goTogether_111 : decode cX12_goTogether 111 = .ok (.aload_n 0, 1) := by decide +kernel
theorem dX12_goTogether_112 : decode cX12_goTogether 112 = .ok (.getfield 113, 3) := by decide +kernel
theorem dX12_goTogether_115 : decode cX12_goTogether 115 = .ok (.iload_n 2, 1) := by decide +kernel
theorem dX12_goTogether_116 : decode cX12_goTogether 116 = .ok (.aload_n 0, 1) := by decide +kernel
theorem dX12_goTogether_117 : decode cX12_goTogether 117 = .ok (.getfield 117, 3) := by decide +kernel
theorem dX12_goTogether_120 : decode cX12_goTogether 120 = .ok (.iload_n 2, 1) := by decide +kernel
theorem dX12_goTogether_121 : decode cX12_goTogether 121 = .ok (.baload, 1) := by decide +kernel
theorem dX12_goTogether_122 : decode cX12_goTogether 122 = .ok (.bastore, 1) := by decide +kernel
theorem dX12_goTogether_123 : decode cX12_goTogether 123 = .ok (.iinc 2 1, 3) := by decide +kernel
theorem dX12_goTogether_126 : decode cX12_goTogether 126 = .ok (.goto (-21), 3) := by decide +kernel
theorem dX12_goTogether_129 : decode cX12_goTogether 129 = .ok (.return_, 1) := by decide +kernel
theorem dX12_halves_0 : decode cX12_halves 0 = .ok (.aload_n 0, 1) := by decide +kernel
theorem dX12_halves_1 : decode cX12_halves 1 = .ok (.iload_n 1, 1) := by decide +kernel
theorem dX12_halves_2 : decode cX12_halves 2 = .ok (.iload_n 2, 1) := by decide +kernel
theorem dX12_halves_3 : decode cX12_halves 3 = .ok (.invokevirtual 392, 3) := by decide +kernel
theorem dX12_halves_6 : decode cX12_halves 6 = .ok (.ifCond .eq 11, 3) := by decide +kernel
theorem dX12_halves_9 : decode cX12_halves 9 = .ok (.aload_n 0, 1) := by decide +kernel
theorem dX12_halves_10 : decode cX12_halves 10 = .ok (.iload_n 3, 1) := by decide +kernel
theorem dX12_halves_11 : decode cX12_halves 11 = .ok (.invokevirtual 395, 3) := by decide +kernel
theorem dX12_halves_14 : decode cX12_halves 14 = .ok (.ifCond .ne 5, 3) := by decide +kernel
theorem dX12_halves_17 : decode cX12_halves 17 = .ok (.iconst (-1), 1) := by decide +kernel
theorem dX12_halves_18 : decode cX12_halves 18 = .ok (.ireturn, 1) := by decide +kernel
theorem dX12_halves_19 : decode cX12_halves 19 = .ok (.iconst 0, 1) := by decide +kernel
theorem dX12_halves_20 : decode cX12_halves 20 = .ok (.istore 4, 2) := by decide +kernel
theorem dX12_halves_22 : decode cX12_halves 22 = .ok (.iload 4, 2) := by decide +kernel
theorem dX12_halves_24 : decode cX12_halves 24 = .ok (.bipush 64, 2) := by decide +kernel
theorem dX12_halves_26 : decode cX12_halves 26 = .ok (.if_icmp .ge 32, 3) := by decide +kernel
theorem dX12_halves_29 : decode cX12_halves 29 = .ok (.aload_n 0, 1) := by decide +kernel
theorem dX12_halves_30 : decode cX12_halves 30 = .ok (.getfield 113, 3) := by decide +kernel
theorem dX12_halves_33 : decode cX12_halves 33 = .ok (.iload 4, 2) := by decide +kernel
theorem dX12_halves_35 : decode cX12_halves 35 = .ok (.iload 4, 2) := by decide +kernel
theorem dX12_halves_37 : decode cX12_halves 37 = .ok (.bipush 8, 2) := by decide +kernel
theorem dX12_halves_39 : decode cX12_halves 39 = .ok (.iload_n 1, 1) := by decide +kernel
theorem dX12_halves_40 : decode cX12_halves 40 = .ok (.imul, 1) := by decide +kernel
theorem dX12_halves_41 : decode cX12_halves 41 = .ok (.iload_n 2, 1) := by decide +kernel
theorem dX12_halves_42 : decode cX12_halves 42 = .ok (.iadd, 1) := by decide +kernel
theorem dX12_halves_43 : decode cX12_halves 43 = .ok (.if_icmp .ne 7, 3) := by decide +kernel
theorem dX12_halves_46 : decode cX12_halves 46 = .ok (.iconst 1, 1) := by decide +kernel
theorem dX12_halves_47 : decode cX12_halves 47 = .ok (.goto 4, 3) := by decide +kernel
theorem dX12_halves_50 : decode cX12_halves 50 = .ok (.iconst 0, 1) := by decide +kernel
theorem dX12_halves_51 : decode cX12_halves 51 = .ok (.bastore, 1) := by decide +kernel
theorem dX12_halves_52 : decode cX12_halves 52 = .ok (.iinc 4 1, 3) := by decide +kernel
theorem dX12_halves_55 : decode cX12_halves 55 = .ok (.goto (-33), 3) := by decide +kernel
theorem dX12_halves_58 : decode cX12_halves 58 = .ok (.iconst 0, 1) := by decide +kernel
theorem dX12_halves_59 : decode cX12_halves 59 = .ok (.istore 4, 2) := by decide +kernel
theorem dX12_halves_61 : decode cX12_halves 61 = .ok (.iload 4, 2) := by decide +kernel
theorem dX12_halves_63 : decode cX12_halves 63 = .ok (.bipush 64, 2) := by decide +kernel
theorem dX12_halves_65 : decode cX12_halves 65 = .ok (.if_icmp .ge 21, 3) := by decide +kernel
theorem dX12_halves_68 : decode cX12_halves 68 = .ok (.aload_n 0, 1) := by decide +kernel
theorem dX12_halves_69 : decode cX12_halves 69 = .ok (.invokevirtual 471, 3) := by decide +kernel
theorem dX12_halves_72 : decode cX12_halves 72 = .ok (.ifCond .ne 14, 3) := by decide +kernel
theorem dX12_halves_75 : decode cX12_halves 75 = .ok (.aload_n 0, 1) := by decide +kernel
theorem dX12_halves_76 : decode cX12_halves 76 = .ok (.iload_n 3, 1) := by decide +kernel
theorem dX12_halves_77 : decode cX12_halves 77 = .ok (.invokevirtual 474, 3) := by decide +kernel
theorem dX12_halves_80 : decode cX12_halves 80 = .ok (.iinc 4 1, 3) := by decide +kernel
theorem dX12_halves_83 : decode cX12_halves 83 = .ok (.goto (-22), 3) := by decide +kernel
theorem dX12_halves_86 : decode cX12_halves 86 = .ok (.aload_n 0, 1) := by decide +kernel
theorem dX12_halves_87 : decode cX12_halves 87 = .ok (.invokevirtual 471, 3) := by decide +kernel
theorem dX12_halves_90 : decode cX12_halves 90 = .ok (.ifCond .eq 8, 3) := by decide +kernel
theorem dX12_halves_93 : decode cX12_halves 93 = .ok (.iload 4, 2) := by decide +kernel
theorem dX12_halves_95 : decode cX12_halves 95 = .ok (.goto 4, 3) := by decide +kernel
theorem dX12_halves_98 : decode cX12_halves 98 = .ok (.iconst (-1), 1) := by decide +kernel
theorem dX12_halves_99 : decode cX12_halves 99 = .ok (.ireturn, 1) := by decide +kernel
theorem dX12_smugglesOf_0 : decode cX12_smugglesOf 0 = .ok (.iconst 0, 1) := by decide +kernel
theorem dX12_smugglesOf_1 : decode cX12_smugglesOf 1 = .ok (.istore 5, 2) := by decide +kernel
theorem dX12_smugglesOf_3 : decode cX12_smugglesOf 3 = .ok (.iconst 1, 1) := by decide +kernel
theorem dX12_smugglesOf_4 : decode cX12_smugglesOf 4 = .ok (.istore 6, 2) := by decide +kernel
theorem dX12_smugglesOf_6 : decode cX12_smugglesOf 6 = .ok (.iload 6, 2) := by decide +kernel
theorem dX12_smugglesOf_8 : decode cX12_smugglesOf 8 = .ok (.iload_n 2, 1) := by decide +kernel
theorem dX12_smugglesOf_9 : decode cX12_smugglesOf 9 = .ok (.if_icmp .gt 32, 3) := by decide +kernel
theorem dX12_smugglesOf_12 : decode cX12_smugglesOf 12 = .ok (.iload 5, 2) := by decide +kernel
theorem dX12_smugglesOf_14 : decode cX12_smugglesOf 14 = .ok (.aload_n 0, 1) := by decide +kernel
theorem dX12_smugglesOf_15 : decode cX12_smugglesOf 15 = .ok (.iload_n 1, 1) := by decide +kernel
theorem dX12_smugglesOf_16 : decode cX12_smugglesOf 16 = .ok (.iload_n 3, 1) := by decide +kernel
theorem dX12_smugglesOf_17 : decode cX12_smugglesOf 17 = .ok (.iload 6, 2) := by decide +kernel
theorem dX12_smugglesOf_19 : decode cX12_smugglesOf 19 = .ok (.invokevirtual 382, 3) := by decide +kernel
theorem dX12_smugglesOf_22 : decode cX12_smugglesOf 22 = .ok (.iload 4, 2) := by decide +kernel
theorem dX12_smugglesOf_24 : decode cX12_smugglesOf 24 = .ok (.if_icmp .ne 7, 3) := by decide +kernel
theorem dX12_smugglesOf_27 : decode cX12_smugglesOf 27 = .ok (.iconst 0, 1) := by decide +kernel
theorem dX12_smugglesOf_28 : decode cX12_smugglesOf 28 = .ok (.goto 4, 3) := by decide +kernel
theorem dX12_smugglesOf_31 : decode cX12_smugglesOf 31 = .ok (.iconst 1, 1) := by decide +kernel
theorem dX12_smugglesOf_32 : decode cX12_smugglesOf 32 = .ok (.iadd, 1) := by decide +kernel
theorem dX12_smugglesOf_33 : decode cX12_smugglesOf 33 = .ok (.istore 5, 2) := by decide +kernel
theorem dX12_smugglesOf_35 : decode cX12_smugglesOf 35 = .ok (.iinc 6 1, 3) := by decide +kernel
theorem dX12_smugglesOf_38 : decode cX12_smugglesOf 38 = .ok (.goto (-32), 3) := by decide +kernel
theorem dX12_smugglesOf_41 : decode cX12_smugglesOf 41 = .ok (.iload 5, 2) := by decide +kernel
theorem dX12_smugglesOf_43 : decode cX12_smugglesOf 43 = .ok (.ireturn, 1) := by decide +kernel
theorem dX12_smuggles_0 : decode cX12_smuggles 0 = .ok (.aload_n 0, 1) := by decide +kernel
theorem dX12_smuggles_1 : decode cX12_smuggles 1 = .ok (.iload_n 1, 1) := by decide +kernel
theorem dX12_smuggles_2 : decode cX12_smuggles 2 = .ok (.iload 4, 2) := by decide +kernel
theorem dX12_smuggles_4 : decode cX12_smuggles 4 = .ok (.invokevirtual 392, 3) := by decide +kernel
theorem dX12_smuggles_7 : decode cX12_smuggles 7 = .ok (.ifCond .eq 33, 3) := by decide +kernel
theorem dX12_smuggles_10 : decode cX12_smuggles 10 = .ok (.iload_n 2, 1) := by decide +kernel
theorem dX12_smuggles_11 : decode cX12_smuggles 11 = .ok (.iconst 1, 1) := by decide +kernel
theorem dX12_smuggles_12 : decode cX12_smuggles 12 = .ok (.bipush 9, 2) := by decide +kernel
theorem dX12_smuggles_14 : decode cX12_smuggles 14 = .ok (.invokestatic 238, 3) := by decide +kernel
theorem dX12_smuggles_17 : decode cX12_smuggles 17 = .ok (.ifCond .eq 23, 3) := by decide +kernel
theorem dX12_smuggles_20 : decode cX12_smuggles 20 = .ok (.aload_n 0, 1) := by decide +kernel
theorem dX12_smuggles_21 : decode cX12_smuggles 21 = .ok (.iload_n 3, 1) := by decide +kernel
theorem dX12_smuggles_22 : decode cX12_smuggles 22 = .ok (.invokevirtual 317, 3) := by decide +kernel
theorem dX12_smuggles_25 : decode cX12_smuggles 25 = .ok (.ifCond .eq 15, 3) := by decide +kernel
theorem dX12_smuggles_28 : decode cX12_smuggles 28 = .ok (.aload_n 0, 1) := by decide +kernel
theorem dX12_smuggles_29 : decode cX12_smuggles 29 = .ok (.iload_n 1, 1) := by decide +kernel
theorem dX12_smuggles_30 : decode cX12_smuggles 30 = .ok (.iload_n 2, 1) := by decide +kernel
theorem dX12_smuggles_31 : decode cX12_smuggles 31 = .ok (.iload_n 3, 1) := by decide +kernel
theorem dX12_smuggles_32 : decode cX12_smuggles 32 = .ok (.iload 4, 2) := by decide +kernel
theorem dX12_smuggles_34 : decode cX12_smuggles 34 = .ok (.invokevirtual 477, 3) := by decide +kernel
theorem dX12_smuggles_37 : decode cX12_smuggles 37 = .ok (.goto 6, 3) := by decide +kernel
theorem dX12_smuggles_40 : decode cX12_smuggles 40 = .ok (.ldc_w 339, 3) := by decide +kernel
theorem dX12_smuggles_43 : decode cX12_smuggles 43 = .ok (.ireturn, 1) := by decide +kernel
theorem dX12_isRest_0 : decode cX12_isRest 0 = .ok (.aload_n 0, 1) := by decide +kernel
theorem dX12_isRest_1 : decode cX12_isRest 1 = .ok (.iload_n 1, 1) := by decide +kernel
theorem dX12_isRest_2 : decode cX12_isRest 2 = .ok (.iload_n 2, 1) := by decide +kernel
theorem dX12_isRest_3 : decode cX12_isRest 3 = .ok (.iload_n 3, 1) := by decide +kernel
theorem dX12_isRest_4 : decode cX12_isRest 4 = .ok (.iload 4, 2) := by decide +kernel
theorem dX12_isRest_6 : decode cX12_isRest 6 = .ok (.invokevirtual 477, 3) := by decide +kernel
theorem dX12_isRest_9 : decode cX12_isRest 9 = .ok (.istore 5, 2) := by decide +kernel
theorem dX12_isRest_11 : decode cX12_isRest 11 = .ok (.iconst 0, 1) := by decide +kernel
theorem dX12_isRest_12 : decode cX12_isRest 12 = .ok (.istore 6, 2) := by decide +kernel
theorem dX12_isRest_14 : decode cX12_isRest 14 = .ok (.iload 6, 2) := by decide +kernel
theorem dX12_isRest_16 : decode cX12_isRest 16 = .ok (.aload_n 0, 1) := by decide +kernel
theorem dX12_isRest_17 : decode cX12_isRest 17 = .ok (.getfield 52, 3) := by decide +kernel
theorem dX12_isRest_20 : decode cX12_isRest 20 = .ok (.iconst 1, 1) := by decide +kernel
theorem dX12_isRest_21 : decode cX12_isRest 21 = .ok (.iaload, 1) := by decide +kernel
theorem dX12_isRest_22 : decode cX12_isRest 22 = .ok (.if_icmp .ge 26, 3) := by decide +kernel
theorem dX12_isRest_25 : decode cX12_isRest 25 = .ok (.aload_n 0, 1) := by decide +kernel
theorem dX12_isRest_26 : decode cX12_isRest 26 = .ok (.iload_n 1, 1) := by decide +kernel
theorem dX12_isRest_27 : decode cX12_isRest 27 = .ok (.iload_n 2, 1) := by decide +kernel
theorem dX12_isRest_28 : decode cX12_isRest 28 = .ok (.iload 6, 2) := by decide +kernel
theorem dX12_isRest_30 : decode cX12_isRest 30 = .ok (.iload 4, 2) := by decide +kernel
theorem dX12_isRest_32 : decode cX12_isRest 32 = .ok (.invokevirtual 477, 3) := by decide +kernel
theorem dX12_isRest_35 : decode cX12_isRest 35 = .ok (.iload 5, 2) := by decide +kernel
theorem dX12_isRest_37 : decode cX12_isRest 37 = .ok (.if_icmp .le 5, 3) := by decide +kernel
theorem dX12_isRest_40 : decode cX12_isRest 40 = .ok (.iconst 0, 1) := by decide +kernel
theorem dX12_isRest_41 : decode cX12_isRest 41 = .ok (.ireturn, 1) := by decide +kernel
theorem dX12_isRest_42 : decode cX12_isRest 42 = .ok (.iinc 6 1, 3) := by decide +kernel
theorem dX12_isRest_45 : decode cX12_isRest 45 = .ok (.goto (-31), 3) := by decide +kernel
theorem dX12_isRest_48 : decode cX12_isRest 48 = .ok (.iconst 0, 1) := by decide +kernel
theorem dX12_isRest_49 : decode cX12_isRest 49 = .ok (.istore 6, 2) := by decide +kernel
theorem dX12_isRest_51 : decode cX12_isRest 51 = .ok (.iload 6, 2) := by decide +kernel
theorem dX12_isRest_53 : decode cX12_isRest 53 = .ok (.aload_n 0, 1) := by decide +kernel
theorem dX12_isRest_54 : decode cX12_isRest 54 = .ok (.getfield 52, 3) := by decide +kernel
theorem dX12_isRest_57 : decode cX12_isRest 57 = .ok (.iconst 0, 1) := by decide +kernel
theorem dX12_isRest_58 : decode cX12_isRest 58 = .ok (.iaload, 1) := by decide +kernel
theorem dX12_isRest_59 : decode cX12_isRest 59 = .ok (.if_icmp .ge 25, 3) := by decide +kernel
theorem dX12_isRest_62 : decode cX12_isRest 62 = .ok (.aload_n 0, 1) := by decide +kernel
theorem dX12_isRest_63 : decode cX12_isRest 63 = .ok (.iload_n 1, 1) := by decide +kernel
theorem dX12_isRest_64 : decode cX12_isRest 64 = .ok (.iload_n 2, 1) := by decide +kernel
theorem dX12_isRest_65 : decode cX12_isRest 65 = .ok (.iload_n 3, 1) := by decide +kernel
theorem dX12_isRest_66 : decode cX12_isRest 66 = .ok (.iload 6, 2) := by decide +kernel
theorem dX12_isRest_68 : decode cX12_isRest 68 = .ok (.invokevirtual 477, 3) := by decide +kernel
theorem dX12_isRest_71 : decode cX12_isRest 71 = .ok (.iload 5, 2) := by decide +kernel
theorem dX12_isRest_73 : decode cX12_isRest 73 = .ok (.if_icmp .ge 5, 3) := by decide +kernel
theorem dX12_isRest_76 : decode cX12_isRest 76 = .ok (.iconst 0, 1) := by decide +kernel
theorem dX12_isRest_77 : decode cX12_isRest 77 = .ok (.ireturn, 1) := by decide +kernel
theorem dX12_isRest_78 : decode cX12_isRest 78 = .ok (.iinc 6 1, 3) := by decide +kernel
theorem dX12_isRest_81 : decode cX12_isRest 81 = .ok (.goto (-30), 3) := by decide +kernel
theorem dX12_isRest_84 : decode cX12_isRest 84 = .ok (.iconst 1, 1) := by decide +kernel
theorem dX12_isRest_85 : decode cX12_isRest 85 = .ok (.ireturn, 1) := by decide +kernel
theorem dX12_rests_0 : decode cX12_rests 0 = .ok (.aload_n 0, 1) := by decide +kernel
theorem dX12_rests_1 : decode cX12_rests 1 = .ok (.iload_n 1, 1) := by decide +kernel
theorem dX12_rests_2 : decode cX12_rests 2 = .ok (.invokevirtual 333, 3) := by decide +kernel
theorem dX12_rests_5 : decode cX12_rests 5 = .ok (.ifCond .eq 18, 3) := by decide +kernel
theorem dX12_rests_8 : decode cX12_rests 8 = .ok (.iload_n 2, 1) := by decide +kernel
theorem dX12_rests_9 : decode cX12_rests 9 = .ok (.iconst 1, 1) := by decide +kernel
theorem dX12_rests_10 : decode cX12_rests 10 = .ok (.bipush 9, 2) := by decide +kernel
theorem dX12_rests_12 : decode cX12_rests 12 = .ok (.invokestatic 238, 3) := by decide +kernel
theorem dX12_rests_15 : decode cX12_rests 15 = .ok (.ifCond .eq 8, 3) := by decide +kernel
theorem dX12_rests_18 : decode cX12_rests 18 = .ok (.iload_n 3, 1) := by decide +kernel
theorem dX12_rests_19 : decode cX12_rests 19 = .ok (.iconst (-1), 1) := by decide +kernel
theorem dX12_rests_20 : decode cX12_rests 20 = .ok (.if_icmp .ge 5, 3) := by decide +kernel
theorem dX12_rests_23 : decode cX12_rests 23 = .ok (.iconst (-1), 1) := by decide +kernel
theorem dX12_rests_24 : decode cX12_rests 24 = .ok (.ireturn, 1) := by decide +kernel
theorem dX12_rests_25 : decode cX12_rests 25 = .ok (.iconst 0, 1) := by decide +kernel
theorem dX12_rests_26 : decode cX12_rests 26 = .ok (.istore 4, 2) := by decide +kernel
theorem dX12_rests_28 : decode cX12_rests 28 = .ok (.iconst 0, 1) := by decide +kernel
theorem dX12_rests_29 : decode cX12_rests 29 = .ok (.istore 5, 2) := by decide +kernel
theorem dX12_rests_31 : decode cX12_rests 31 = .ok (.iload 5, 2) := by decide +kernel
theorem dX12_rests_33 : decode cX12_rests 33 = .ok (.aload_n 0, 1) := by decide +kernel
theorem dX12_rests_34 : decode cX12_rests 34 = .ok (.getfield 52, 3) := by decide +kernel
theorem dX12_rests_37 : decode cX12_rests 37 = .ok (.iconst 1, 1) := by decide +kernel
theorem dX12_rests_38 : decode cX12_rests 38 = .ok (.iaload, 1) := by decide +kernel
theorem dX12_rests_39 : decode cX12_rests 39 = .ok (.if_icmp .ge 60, 3) := by decide +kernel
theorem dX12_rests_42 : decode cX12_rests 42 = .ok (.iconst 0, 1) := by decide +kernel
theorem dX12_rests_43 : decode cX12_rests 43 = .ok (.istore 6, 2) := by decide +kernel
theorem dX12_rests_45 : decode cX12_rests 45 = .ok (.iload 6, 2) := by decide +kernel
theorem dX12_rests_47 : decode cX12_rests 47 = .ok (.aload_n 0, 1) := by decide +kernel
theorem dX12_rests_48 : decode cX12_rests 48 = .ok (.getfield 52, 3) := by decide +kernel
theorem dX12_rests_51 : decode cX12_rests 51 = .ok (.iconst 0, 1) := by decide +kernel
theorem dX12_rests_52 : decode cX12_rests 52 = .ok (.iaload, 1) := by decide +kernel
theorem dX12_rests_53 : decode cX12_rests 53 = .ok (.if_icmp .ge 40, 3) := by decide +kernel
theorem dX12_rests_56 : decode cX12_rests 56 = .ok (.aload_n 0, 1) := by decide +kernel
theorem dX12_rests_57 : decode cX12_rests 57 = .ok (.iload_n 1, 1) := by decide +kernel
theorem dX12_rests_58 : decode cX12_rests 58 = .ok (.iload_n 2, 1) := by decide +kernel
theorem dX12_rests_59 : decode cX12_rests 59 = .ok (.iload 5, 2) := by decide +kernel
theorem dX12_rests_61 : decode cX12_rests 61 = .ok (.iload 6, 2) := by decide +kernel
theorem dX12_rests_63 : decode cX12_rests 63 = .ok (.invokevirtual 480, 3) := by decide +kernel
theorem dX12_rests_66 : decode cX12_rests 66 = .ok (.ifCond .eq 21, 3) := by decide +kernel
theorem dX12_rests_69 : decode cX12_rests 69 = .ok (.iload 4, 2) := by decide +kernel
theorem dX12_rests_71 : decode cX12_rests 71 = .ok (.iload_n 3, 1) := by decide +kernel
theorem dX12_rests_72 : decode cX12_rests 72 = .ok (.if_icmp .ne 12, 3) := by decide +kernel
theorem dX12_rests_75 : decode cX12_rests 75 = .ok (.bipush 10, 2) := by decide +kernel
theorem dX12_rests_77 : decode cX12_rests 77 = .ok (.iload 5, 2) := by decide +kernel
theorem dX12_rests_79 : decode cX12_rests 79 = .ok (.imul, 1) := by decide +kernel
theorem dX12_rests_80 : decode cX12_rests 80 = .ok (.iload 6, 2) := by decide +kernel
theorem dX12_rests_82 : decode cX12_rests 82 = .ok (.iadd, 1) := by decide +kernel
theorem dX12_rests_83 : decode cX12_rests 83 = .ok (.ireturn, 1) := by decide +kernel
theorem dX12_rests_84 : decode cX12_rests 84 = .ok (.iinc 4 1, 3) := by decide +kernel
theorem dX12_rests_87 : decode cX12_rests 87 = .ok (.iinc 6 1, 3) := by decide +kernel
theorem dX12_rests_90 : decode cX12_rests 90 = .ok (.goto (-45), 3) := by decide +kernel
theorem dX12_rests_93 : decode cX12_rests 93 = .ok (.iinc 5 1, 3) := by decide +kernel
theorem dX12_rests_96 : decode cX12_rests 96 = .ok (.goto (-65), 3) := by decide +kernel
theorem dX12_rests_99 : decode cX12_rests 99 = .ok (.iload_n 3, 1) := by decide +kernel
theorem dX12_rests_100 : decode cX12_rests 100 = .ok (.iconst (-1), 1) := by decide +kernel
theorem dX12_rests_101 : decode cX12_rests 101 = .ok (.if_icmp .ne 8, 3) := by decide +kernel
theorem dX12_rests_104 : decode cX12_rests 104 = .ok (.iload 4, 2) := by decide +kernel
theorem dX12_rests_106 : decode cX12_rests 106 = .ok (.goto 4, 3) := by decide +kernel
theorem dX12_rests_109 : decode cX12_rests 109 = .ok (.iconst (-1), 1) := by decide +kernel
theorem dX12_rests_110 : decode cX12_rests 110 = .ok (.ireturn, 1) := by decide +kernel
theorem dX12_astray_0 : decode cX12_astray 0 = .ok (.aload_n 0, 1) := by decide +kernel
theorem dX12_astray_1 : decode cX12_astray 1 = .ok (.getfield 52, 3) := by decide +kernel
theorem dX12_astray_4 : decode cX12_astray 4 = .ok (.iconst 0, 1) := by decide +kernel
theorem dX12_astray_5 : decode cX12_astray 5 = .ok (.iaload, 1) := by decide +kernel
theorem dX12_astray_6 : decode cX12_astray 6 = .ok (.ifCond .ne 5, 3) := by decide +kernel
theorem dX12_astray_9 : decode cX12_astray 9 = .ok (.iconst (-1), 1) := by decide +kernel
theorem dX12_astray_10 : decode cX12_astray 10 = .ok (.ireturn, 1) := by decide +kernel
theorem dX12_astray_11 : decode cX12_astray 11 = .ok (.iconst 0, 1) := by decide +kernel
theorem dX12_astray_12 : decode cX12_astray 12 = .ok (.istore_n 1, 1) := by decide +kernel
theorem dX12_astray_13 : decode cX12_astray 13 = .ok (.iconst 0, 1) := by decide +kernel
theorem dX12_astray_14 : decode cX12_astray 14 = .ok (.istore_n 2, 1) := by decide +kernel
theorem dX12_astray_15 : decode cX12_astray 15 = .ok (.iload_n 2, 1) := by decide +kernel
theorem dX12_astray_16 : decode cX12_astray 16 = .ok (.aload_n 0, 1) := by decide +kernel
theorem dX12_astray_17 : decode cX12_astray 17 = .ok (.getfield 58, 3) := by decide +kernel
theorem dX12_astray_20 : decode cX12_astray 20 = .ok (.sipush 136, 3) := by decide +kernel
theorem dX12_astray_23 : decode cX12_astray 23 = .ok (.iaload, 1) := by decide +kernel
theorem dX12_astray_24 : decode cX12_astray 24 = .ok (.if_icmp .ge 29, 3) := by decide +kernel
theorem dX12_astray_27 : decode cX12_astray 27 = .ok (.iload_n 1, 1) := by decide +kernel
theorem dX12_astray_28 : decode cX12_astray 28 = .ok (.aload_n 0, 1) := by decide +kernel
theorem dX12_astray_29 : decode cX12_astray 29 = .ok (.iload_n 2, 1) := by decide +kernel
theorem dX12_astray_30 : decode cX12_astray 30 = .ok (.iconst 5, 1) := by decide +kernel
theorem dX12_astray_31 : decode cX12_astray 31 = .ok (.invokevirtual 343, 3) := by decide +kernel
theorem dX12_astray_34 : decode cX12_astray 34 = .ok (.iconst (-1), 1) := by decide +kernel
theorem dX12_astray_35 : decode cX12_astray 35 = .ok (.if_icmp .ne 7, 3) := by decide +kernel
theorem dX12_astray_38 : decode cX12_astray 38 = .ok (.iconst 0, 1) := by decide +kernel
theorem dX12_astray_39 : decode cX12_astray 39 = .ok (.goto 6, 3) := by decide +kernel
theorem dX12_astray_42 : decode cX12_astray 42 = .ok (.iconst 1, 1) := by decide +kernel
theorem dX12_astray_43 : decode cX12_astray 43 = .ok (.iload_n 2, 1) := by decide +kernel
theorem dX12_astray_44 : decode cX12_astray 44 = .ok (.ishl, 1) := by decide +kernel
theorem dX12_astray_45 : decode cX12_astray 45 = .ok (.ior, 1) := by decide +kernel
theorem dX12_astray_46 : decode cX12_astray 46 = .ok (.istore_n 1, 1) := by decide +kernel
theorem dX12_astray_47 : decode cX12_astray 47 = .ok (.iinc 2 1, 3) := by decide +kernel
theorem dX12_astray_50 : decode cX12_astray 50 = .ok (.goto (-35), 3) := by decide +kernel
theorem dX12_astray_53 : decode cX12_astray 53 = .ok (.iload_n 1, 1) := by decide +kernel
theorem dX12_astray_54 : decode cX12_astray 54 = .ok (.ireturn, 1) := by decide +kernel
theorem dX12_due_0 : decode cX12_due 0 = .ok (.aload_n 0, 1) := by decide +kernel
theorem dX12_due_1 : decode cX12_due 1 = .ok (.iload_n 1, 1) := by decide +kernel
theorem dX12_due_2 : decode cX12_due 2 = .ok (.invokevirtual 349, 3) := by decide +kernel
theorem dX12_due_5 : decode cX12_due 5 = .ok (.ifCond .ne 7, 3) := by decide +kernel
theorem dX12_due_8 : decode cX12_due 8 = .ok (.iconst (-1), 1) := by decide +kernel
theorem dX12_due_9 : decode cX12_due 9 = .ok (.goto 32, 3) := by decide +kernel
theorem dX12_due_12 : decode cX12_due 12 = .ok (.aload_n 0, 1) := by decide +kernel
theorem dX12_due_13 : decode cX12_due 13 = .ok (.iload_n 1, 1) := by decide +kernel
theorem dX12_due_14 : decode cX12_due 14 = .ok (.iconst 5, 1) := by decide +kernel
theorem dX12_due_15 : decode cX12_due 15 = .ok (.invokevirtual 343, 3) := by decide +kernel
theorem dX12_due_18 : decode cX12_due 18 = .ok (.iconst (-1), 1) := by decide +kernel
theorem dX12_due_19 : decode cX12_due 19 = .ok (.if_icmp .ne 7, 3) := by decide +kernel
theorem dX12_due_22 : decode cX12_due 22 = .ok (.iconst 0, 1) := by decide +kernel
theorem dX12_due_23 : decode cX12_due 23 = .ok (.goto 18, 3) := by decide +kernel
theorem dX12_due_26 : decode cX12_due 26 = .ok (.aload_n 0, 1) := by decide +kernel
theorem dX12_due_27 : decode cX12_due 27 = .ok (.iload_n 1, 1) := by decide +kernel
theorem dX12_due_28 : decode cX12_due 28 = .ok (.iconst 5, 1) := by decide +kernel
theorem dX12_due_29 : decode cX12_due 29 = .ok (.invokevirtual 343, 3) := by decide +kernel
theorem dX12_due_32 : decode cX12_due 32 = .ok (.aload_n 0, 1) := by decide +kernel
theorem dX12_due_33 : decode cX12_due 33 = .ok (.getfield 58, 3) := by decide +kernel
theorem dX12_due_36 : decode cX12_due 36 = .ok (.sipush 137, 3) := by decide +kernel
theorem dX12_due_39 : decode cX12_due 39 = .ok (.iaload, 1) := by decide +kernel
theorem dX12_due_40 : decode cX12_due 40 = .ok (.isub, 1) := by decide +kernel
theorem dX12_due_41 : decode cX12_due 41 = .ok (.ireturn, 1) := by decide +kernel
theorem dX12_loops_0 : decode cX12_loops 0 = .ok (.aload_n 0, 1) := by decide +kernel
theorem dX12_loops_1 : decode cX12_loops 1 = .ok (.iload_n 1, 1) := by decide +kernel
theorem dX12_loops_2 : decode cX12_loops 2 = .ok (.invokevirtual 333, 3) := by decide +kernel
theorem dX12_loops_5 : decode cX12_loops 5 = .ok (.ifCond .ne 5, 3) := by decide +kernel
theorem dX12_loops_8 : decode cX12_loops 8 = .ok (.iconst (-1), 1) := by decide +kernel
theorem dX12_loops_9 : decode cX12_loops 9 = .ok (.ireturn, 1) := by decide +kernel
theorem dX12_loops_10 : decode cX12_loops 10 = .ok (.iconst 0, 1) := by decide +kernel
theorem dX12_loops_11 : decode cX12_loops 11 = .ok (.istore_n 2, 1) := by decide +kernel
theorem dX12_loops_12 : decode cX12_loops 12 = .ok (.iconst 0, 1) := by decide +kernel
theorem dX12_loops_13 : decode cX12_loops 13 = .ok (.istore_n 3, 1) := by decide +kernel
theorem dX12_loops_14 : decode cX12_loops 14 = .ok (.iload_n 3, 1) := by decide +kernel
theorem dX12_loops_15 : decode cX12_loops 15 = .ok (.aload_n 0, 1) := by decide +kernel
theorem dX12_loops_16 : decode cX12_loops 16 = .ok (.getfield 52, 3) := by decide +kernel
theorem dX12_loops_19 : decode cX12_loops 19 = .ok (.iconst 1, 1) := by decide +kernel
theorem dX12_loops_20 : decode cX12_loops 20 = .ok (.iaload, 1) := by decide +kernel
theorem dX12_loops_21 : decode cX12_loops 21 = .ok (.if_icmp .ge 29, 3) := by decide +kernel
theorem dX12_loops_24 : decode cX12_loops 24 = .ok (.iload_n 2, 1) := by decide +kernel
theorem dX12_loops_25 : decode cX12_loops 25 = .ok (.aload_n 0, 1) := by decide +kernel
theorem dX12_loops_26 : decode cX12_loops 26 = .ok (.iload_n 1, 1) := by decide +kernel
theorem dX12_loops_27 : decode cX12_loops 27 = .ok (.iload_n 3, 1) := by decide +kernel
theorem dX12_loops_28 : decode cX12_loops 28 = .ok (.invokevirtual 323, 3) := by decide +kernel
theorem dX12_loops_31 : decode cX12_loops 31 = .ok (.iload_n 1, 1) := by decide +kernel
theorem dX12_loops_32 : decode cX12_loops 32 = .ok (.if_icmp .ne 9, 3) := by decide +kernel
theorem dX12_loops_35 : decode cX12_loops 35 = .ok (.iconst 1, 1) := by decide +kernel
theorem dX12_loops_36 : decode cX12_loops 36 = .ok (.iload_n 3, 1) := by decide +kernel
theorem dX12_loops_37 : decode cX12_loops 37 = .ok (.ishl, 1) := by decide +kernel
theorem dX12_loops_38 : decode cX12_loops 38 = .ok (.goto 4, 3) := by decide +kernel
theorem dX12_loops_41 : decode cX12_loops 41 = .ok (.iconst 0, 1) := by decide +kernel
theorem dX12_loops_42 : decode cX12_loops 42 = .ok (.ior, 1) := by decide +kernel
theorem dX12_loops_43 : decode cX12_loops 43 = .ok (.istore_n 2, 1) := by decide +kernel
theorem dX12_loops_44 : decode cX12_loops 44 = .ok (.iinc 3 1, 3) := by decide +kernel
theorem dX12_loops_47 : decode cX12_loops 47 = .ok (.goto (-33), 3) := by decide +kernel
theorem dX12_loops_50 : decode cX12_loops 50 = .ok (.iload_n 2, 1) := by decide +kernel
theorem dX12_loops_51 : decode cX12_loops 51 = .ok (.ireturn, 1) := by decide +kernel
theorem dX12_safe_0 : decode cX12_safe 0 = .ok (.aload_n 0, 1) := by decide +kernel
theorem dX12_safe_1 : decode cX12_safe 1 = .ok (.getfield 52, 3) := by decide +kernel
theorem dX12_safe_4 : decode cX12_safe 4 = .ok (.iconst 0, 1) := by decide +kernel
theorem dX12_safe_5 : decode cX12_safe 5 = .ok (.iaload, 1) := by decide +kernel
theorem dX12_safe_6 : decode cX12_safe 6 = .ok (.ifCond .ne 5, 3) := by decide +kernel
theorem dX12_safe_9 : decode cX12_safe 9 = .ok (.iconst (-1), 1) := by decide +kernel
theorem dX12_safe_10 : decode cX12_safe 10 = .ok (.ireturn, 1) := by decide +kernel
theorem dX12_safe_11 : decode cX12_safe 11 = .ok (.iconst 0, 1) := by decide +kernel
theorem dX12_safe_12 : decode cX12_safe 12 = .ok (.istore_n 1, 1) := by decide +kernel
theorem dX12_safe_13 : decode cX12_safe 13 = .ok (.iconst 0, 1) := by decide +kernel
theorem dX12_safe_14 : decode cX12_safe 14 = .ok (.istore_n 2, 1) := by decide +kernel
theorem dX12_safe_15 : decode cX12_safe 15 = .ok (.iload_n 2, 1) := by decide +kernel
theorem dX12_safe_16 : decode cX12_safe 16 = .ok (.aload_n 0, 1) := by decide +kernel
theorem dX12_safe_17 : decode cX12_safe 17 = .ok (.getfield 52, 3) := by decide +kernel
theorem dX12_safe_20 : decode cX12_safe 20 = .ok (.iconst 0, 1) := by decide +kernel
theorem dX12_safe_21 : decode cX12_safe 21 = .ok (.iaload, 1) := by decide +kernel
theorem dX12_safe_22 : decode cX12_safe 22 = .ok (.if_icmp .ge 71, 3) := by decide +kernel
theorem dX12_safe_25 : decode cX12_safe 25 = .ok (.iconst 1, 1) := by decide +kernel
theorem dX12_safe_26 : decode cX12_safe 26 = .ok (.istore_n 3, 1) := by decide +kernel
theorem dX12_safe_27 : decode cX12_safe 27 = .ok (.iconst 1, 1) := by decide +kernel
theorem dX12_safe_28 : decode cX12_safe 28 = .ok (.istore 4, 2) := by decide +kernel
theorem dX12_safe_30 : decode cX12_safe 30 = .ok (.iload 4, 2) := by decide +kernel
theorem dX12_safe_32 : decode cX12_safe 32 = .ok (.aload_n 0, 1) := by decide +kernel
theorem dX12_safe_33 : decode cX12_safe 33 = .ok (.getfield 52, 3) := by decide +kernel
theorem dX12_safe_36 : decode cX12_safe 36 = .ok (.iconst 1, 1) := by decide +kernel
theorem dX12_safe_37 : decode cX12_safe 37 = .ok (.iaload, 1) := by decide +kernel
theorem dX12_safe_38 : decode cX12_safe 38 = .ok (.if_icmp .ge 35, 3) := by decide +kernel
theorem dX12_safe_41 : decode cX12_safe 41 = .ok (.iload_n 3, 1) := by decide +kernel
theorem dX12_safe_42 : decode cX12_safe 42 = .ok (.ifCond .eq 23, 3) := by decide +kernel
theorem dX12_safe_45 : decode cX12_safe 45 = .ok (.aload_n 0, 1) := by decide +kernel
theorem dX12_safe_46 : decode cX12_safe 46 = .ok (.iload_n 2, 1) := by decide +kernel
theorem dX12_safe_47 : decode cX12_safe 47 = .ok (.iload 4, 2) := by decide +kernel
theorem dX12_safe_49 : decode cX12_safe 49 = .ok (.invokevirtual 323, 3) := by decide +kernel
theorem dX12_safe_52 : decode cX12_safe 52 = .ok (.aload_n 0, 1) := by decide +kernel
theorem dX12_safe_53 : decode cX12_safe 53 = .ok (.iload_n 2, 1) := by decide +kernel
theorem dX12_safe_54 : decode cX12_safe 54 = .ok (.iconst 0, 1) := by decide +kernel
theorem dX12_safe_55 : decode cX12_safe 55 = .ok (.invokevirtual 323, 3) := by decide +kernel
theorem dX12_safe_58 : decode cX12_safe 58 = .ok (.if_icmp .ne 7, 3) := by decide +kernel
theorem dX12_safe_61 : decode cX12_safe 61 = .ok (.iconst 1, 1) := by decide +kernel
theorem dX12_safe_62 : decode cX12_safe 62 = .ok (.goto 4, 3) := by decide +kernel
theorem dX12_safe_65 : decode cX12_safe 65 = .ok (.iconst 0, 1) := by decide +kernel
theorem dX12_safe_66 : decode cX12_safe 66 = .ok (.istore_n 3, 1) := by decide +kernel
theorem dX12_safe_67 : decode cX12_safe 67 = .ok (.iinc 4 1, 3) := by decide +kernel
theorem dX12_safe_70 : decode cX12_safe 70 = .ok (.goto (-40), 3) := by decide +kernel
theorem dX12_safe_73 : decode cX12_safe 73 = .ok (.iload_n 1, 1) := by decide +kernel
theorem dX12_safe_74 : decode cX12_safe 74 = .ok (.iload_n 3, 1) := by decide +kernel
theorem dX12_safe_75 : decode cX12_safe 75 = .ok (.ifCond .eq 9, 3) := by decide +kernel
theorem dX12_safe_78 : decode cX12_safe 78 = .ok (.iconst 1, 1) := by decide +kernel
theorem dX12_safe_79 : decode cX12_safe 79 = .ok (.iload_n 2, 1) := by decide +kernel
theorem dX12_safe_80 : decode cX12_safe 80 = .ok (.ishl, 1) := by decide +kernel
theorem dX12_safe_81 : decode cX12_safe 81 = .ok (.goto 4, 3) := by decide +kernel
theorem dX12_safe_84 : decode cX12_safe 84 = .ok (.iconst 0, 1) := by decide +kernel
theorem dX12_safe_85 : decode cX12_safe 85 = .ok (.ior, 1) := by decide +kernel
theorem dX12_safe_86 : decode cX12_safe 86 = .ok (.istore_n 1, 1) := by decide +kernel
theorem dX12_safe_87 : decode cX12_safe 87 = .ok (.iinc 2 1, 3) := by decide +kernel
theorem dX12_safe_90 : decode cX12_safe 90 = .ok (.goto (-75), 3) := by decide +kernel
theorem dX12_safe_93 : decode cX12_safe 93 = .ok (.iload_n 1, 1) := by decide +kernel
theorem dX12_safe_94 : decode cX12_safe 94 = .ok (.ireturn, 1) := by decide +kernel
theorem dX12_visits_0 : decode cX12_visits 0 = .ok (.aload_n 0, 1) := by decide +kernel
theorem dX12_visits_1 : decode cX12_visits 1 = .ok (.iload_n 1, 1) := by decide +kernel
theorem dX12_visits_2 : decode cX12_visits 2 = .ok (.invokevirtual 333, 3) := by decide +kernel
theorem dX12_visits_5 : decode cX12_visits 5 = .ok (.ifCond .ne 5, 3) := by decide +kernel
theorem dX12_visits_8 : decode cX12_visits 8 = .ok (.iconst (-1), 1) := by decide +kernel
theorem dX12_visits_9 : decode cX12_visits 9 = .ok (.ireturn, 1) := by decide +kernel
theorem dX12_visits_10 : decode cX12_visits 10 = .ok (.iconst 0, 1) := by decide +kernel
theorem dX12_visits_11 : decode cX12_visits 11 = .ok (.istore_n 2, 1) := by decide +kernel
theorem dX12_visits_12 : decode cX12_visits 12 = .ok (.iconst 0, 1) := by decide +kernel
theorem dX12_visits_13 : decode cX12_visits 13 = .ok (.istore_n 3, 1) := by decide +kernel
theorem dX12_visits_14 : decode cX12_visits 14 = .ok (.iload_n 3, 1) := by decide +kernel
theorem dX12_visits_15 : decode cX12_visits 15 = .ok (.aload_n 0, 1) := by decide +kernel
theorem dX12_visits_16 : decode cX12_visits 16 = .ok (.getfield 58, 3) := by decide +kernel
theorem dX12_visits_19 : decode cX12_visits 19 = .ok (.sipush 139, 3) := by decide +kernel
theorem dX12_visits_22 : decode cX12_visits 22 = .ok (.iaload, 1) := by decide +kernel
theorem dX12_visits_23 : decode cX12_visits 23 = .ok (.if_icmp .ge 35, 3) := by decide +kernel
theorem dX12_visits_26 : decode cX12_visits 26 = .ok (.iload_n 2, 1) := by decide +kernel
theorem dX12_visits_27 : decode cX12_visits 27 = .ok (.aload_n 0, 1) := by decide +kernel
theorem dX12_visits_28 : decode cX12_visits 28 = .ok (.getfield 58, 3) := by decide +kernel
theorem dX12_visits_31 : decode cX12_visits 31 = .ok (.sipush 140, 3) := by decide +kernel
theorem dX12_visits_34 : decode cX12_visits 34 = .ok (.iconst 3, 1) := by decide +kernel
theorem dX12_visits_35 : decode cX12_visits 35 = .ok (.iload_n 3, 1) := by decide +kernel
theorem dX12_visits_36 : decode cX12_visits 36 = .ok (.imul, 1) := by decide +kernel
theorem dX12_visits_37 : decode cX12_visits 37 = .ok (.iadd, 1) := by decide +kernel
theorem dX12_visits_38 : decode cX12_visits 38 = .ok (.iconst 1, 1) := by decide +kernel
theorem dX12_visits_39 : decode cX12_visits 39 = .ok (.iadd, 1) := by decide +kernel
theorem dX12_visits_40 : decode cX12_visits 40 = .ok (.iaload, 1) := by decide +kernel
theorem dX12_visits_41 : decode cX12_visits 41 = .ok (.iload_n 1, 1) := by decide +kernel
theorem dX12_visits_42 : decode cX12_visits 42 = .ok (.if_icmp .ne 7, 3) := by decide +kernel
theorem dX12_visits_45 : decode cX12_visits 45 = .ok (.iconst 1, 1) := by decide +kernel
theorem dX12_visits_46 : decode cX12_visits 46 = .ok (.goto 4, 3) := by decide +kernel
theorem dX12_visits_49 : decode cX12_visits 49 = .ok (.iconst 0, 1) := by decide +kernel
theorem dX12_visits_50 : decode cX12_visits 50 = .ok (.iadd, 1) := by decide +kernel
theorem dX12_visits_51 : decode cX12_visits 51 = .ok (.istore_n 2, 1) := by decide +kernel
theorem dX12_visits_52 : decode cX12_visits 52 = .ok (.iinc 3 1, 3) := by decide +kernel
theorem dX12_visits_55 : decode cX12_visits 55 = .ok (.goto (-41), 3) := by decide +kernel
theorem dX12_visits_58 : decode cX12_visits 58 = .ok (.iload_n 2, 1) := by decide +kernel
theorem dX12_visits_59 : decode cX12_visits 59 = .ok (.ireturn, 1) := by decide +kernel
theorem dX12_image_0 : decode cX12_image 0 = .ok (.aload_n 0, 1) := by decide +kernel
theorem dX12_image_1 : decode cX12_image 1 = .ok (.getfield 52, 3) := by decide +kernel
theorem dX12_image_4 : decode cX12_image 4 = .ok (.iconst 0, 1) := by decide +kernel
theorem dX12_image_5 : decode cX12_image 5 = .ok (.iaload, 1) := by decide +kernel
theorem dX12_image_6 : decode cX12_image 6 = .ok (.ifCond .ne 5, 3) := by decide +kernel
theorem dX12_image_9 : decode cX12_image 9 = .ok (.iconst (-1), 1) := by decide +kernel
theorem dX12_image_10 : decode cX12_image 10 = .ok (.ireturn, 1) := by decide +kernel
theorem dX12_image_11 : decode cX12_image 11 = .ok (.iconst 0, 1) := by decide +kernel
theorem dX12_image_12 : decode cX12_image 12 = .ok (.istore_n 1, 1) := by decide +kernel
theorem dX12_image_13 : decode cX12_image 13 = .ok (.iload_n 1, 1) := by decide +kernel
theorem dX12_image_14 : decode cX12_image 14 = .ok (.sipush 320, 3) := by decide +kernel
theorem dX12_image_17 : decode cX12_image 17 = .ok (.if_icmp .ge 21, 3) := by decide +kernel
theorem dX12_image_20 : decode cX12_image 20 = .ok (.aload_n 0, 1) := by decide +kernel
theorem dX12_image_21 : decode cX12_image 21 = .ok (.getfield 120, 3) := by decide +kernel
theorem dX12_image_24 : decode cX12_image 24 = .ok (.iload_n 1, 1) := by decide +kernel
theorem dX12_image_25 : decode cX12_image 25 = .ok (.aload_n 0, 1) := by decide +kernel
theorem dX12_image_26 : decode cX12_image 26 = .ok (.getfield 58, 3) := by decide +kernel
theorem dX12_image_29 : decode cX12_image 29 = .ok (.iload_n 1, 1) := by decide +kernel
theorem dX12_image_30 : decode cX12_image 30 = .ok (.iaload, 1) := by decide +kernel
theorem dX12_image_31 : decode cX12_image 31 = .ok (.iastore, 1) := by decide +kernel
theorem dX12_image_32 : decode cX12_image 32 = .ok (.iinc 1 1, 3) := by decide +kernel
theorem dX12_image_35 : decode cX12_image 35 = .ok (.goto (-22), 3) := by decide +kernel
theorem dX12_image_38 : decode cX12_image 38 = .ok (.aload_n 0, 1) := by decide +kernel
theorem dX12_image_39 : decode cX12_image 39 = .ok (.iconst 1, 1) := by decide +kernel
theorem dX12_image_40 : decode cX12_image 40 = .ok (.putfield 307, 3) := by decide +kernel
theorem dX12_image_43 : decode cX12_image 43 = .ok (.aload_n 0, 1) := by decide +kernel
theorem dX12_image_44 : decode cX12_image 44 = .ok (.getfield 58, 3) := by decide +kernel
theorem dX12_image_47 : decode cX12_image 47 = .ok (.sipush 137, 3) := by decide +kernel
theorem dX12_image_50 : decode cX12_image 50 = .ok (.iaload, 1) := by decide +kernel
theorem dX12_image_51 : decode cX12_image 51 = .ok (.ireturn, 1) := by decide +kernel
theorem dX12_back_0 : decode cX12_back 0 = .ok (.aload_n 0, 1) := by decide +kernel
theorem dX12_back_1 : decode cX12_back 1 = .ok (.getfield 307, 3) := by decide +kernel
theorem dX12_back_4 : decode cX12_back 4 = .ok (.ifCond .ne 5, 3) := by decide +kernel
theorem dX12_back_7 : decode cX12_back 7 = .ok (.iconst (-1), 1) := by decide +kernel
theorem dX12_back_8 : decode cX12_back 8 = .ok (.ireturn, 1) := by decide +kernel
theorem dX12_back_9 : decode cX12_back 9 = .ok (.iconst 0, 1) := by decide +kernel
theorem dX12_back_10 : decode cX12_back 10 = .ok (.istore_n 1, 1) := by decide +kernel
theorem dX12_back_11 : decode cX12_back 11 = .ok (.iload_n 1, 1) := by decide +kernel
theorem dX12_back_12 : decode cX12_back 12 = .ok (.sipush 320, 3) := by decide +kernel
theorem dX12_back_15 : decode cX12_back 15 = .ok (.if_icmp .ge 21, 3) := by decide +kernel
theorem dX12_back_18 : decode cX12_back 18 = .ok (.aload_n 0, 1) := by decide +kernel
theorem dX12_back_19 : decode cX12_back 19 = .ok (.getfield 58, 3) := by decide +kernel
theorem dX12_back_22 : decode cX12_back 22 = .ok (.iload_n 1, 1) := by decide +kernel
theorem dX12_back_23 : decode cX12_back 23 = .ok (.aload_n 0, 1) := by decide +kernel
theorem dX12_back_24 : decode cX12_back 24 = .ok (.getfield 120, 3) := by decide +kernel
theorem dX12_back_27 : decode cX12_back 27 = .ok (.iload_n 1, 1) := by decide +kernel
theorem dX12_back_28 : decode cX12_back 28 = .ok (.iaload, 1) := by decide +kernel
theorem dX12_back_29 : decode cX12_back 29 = .ok (.iastore, 1) := by decide +kernel
theorem dX12_back_30 : decode cX12_back 30 = .ok (.iinc 1 1, 3) := by decide +kernel
theorem dX12_back_33 : decode cX12_back 33 = .ok (.goto (-22), 3) := by decide +kernel
theorem dX12_back_36 : decode cX12_back 36 = .ok (.aload_n 0, 1) := by decide +kernel
theorem dX12_back_37 : decode cX12_back 37 = .ok (.iconst 0, 1) := by decide +kernel
theorem dX12_back_38 : decode cX12_back 38 = .ok (.putfield 304, 3) := by decide +kernel
theorem dX12_back_41 : decode cX12_back 41 = .ok (.aload_n 0, 1) := by decide +kernel
theorem dX12_back_42 : decode cX12_back 42 = .ok (.getfield 58, 3) := by decide +kernel
theorem dX12_back_45 : decode cX12_back 45 = .ok (.sipush 137, 3) := by decide +kernel
theorem dX12_back_48 : decode cX12_back 48 = .ok (.iaload, 1) := by decide +kernel
theorem dX12_back_49 : decode cX12_back 49 = .ok (.ireturn, 1) := by decide +kernel
theorem dX12_guardsInAll_0 : decode cX12_guardsInAll 0 = .ok (.iconst 0, 1) := by decide +kernel
theorem dX12_guardsInAll_1 : decode cX12_guardsInAll 1 = .ok (.istore_n 1, 1) := by decide +kernel
theorem dX12_guardsInAll_2 : decode cX12_guardsInAll 2 = .ok (.iconst 0, 1) := by decide +kernel
theorem dX12_guardsInAll_3 : decode cX12_guardsInAll 3 = .ok (.istore_n 2, 1) := by decide +kernel
theorem dX12_guardsInAll_4 : decode cX12_guardsInAll 4 = .ok (.iload_n 2, 1) := by decide +kernel
theorem dX12_guardsInAll_5 : decode cX12_guardsInAll 5 = .ok (.bipush 8, 2) := by decide +kernel
theorem dX12_guardsInAll_7 : decode cX12_guardsInAll 7 = .ok (.if_icmp .ge 21, 3) := by decide +kernel
theorem dX12_guardsInAll_10 : decode cX12_guardsInAll 10 = .ok (.iload_n 1, 1) := by decide +kernel
theorem dX12_guardsInAll_11 : decode cX12_guardsInAll 11 = .ok (.aload_n 0, 1) := by decide +kernel
theorem dX12_guardsInAll_12 : decode cX12_guardsInAll 12 = .ok (.getfield 58, 3) := by decide +kernel
theorem dX12_guardsInAll_15 : decode cX12_guardsInAll 15 = .ok (.bipush 80, 2) := by decide +kernel
theorem dX12_guardsInAll_17 : decode cX12_guardsInAll 17 = .ok (.iload_n 2, 1) := by decide +kernel
theorem dX12_guardsInAll_18 : decode cX12_guardsInAll 18 = .ok (.iadd, 1) := by decide +kernel
theorem dX12_guardsInAll_19 : decode cX12_guardsInAll 19 = .ok (.iaload, 1) := by decide +kernel
theorem dX12_guardsInAll_20 : decode cX12_guardsInAll 20 = .ok (.iadd, 1) := by decide +kernel
theorem dX12_guardsInAll_21 : decode cX12_guardsInAll 21 = .ok (.istore_n 1, 1) := by decide +kernel
theorem dX12_guardsInAll_22 : decode cX12_guardsInAll 22 = .ok (.iinc 2 1, 3) := by decide +kernel
theorem dX12_guardsInAll_25 : decode cX12_guardsInAll 25 = .ok (.goto (-21), 3) := by decide +kernel
theorem dX12_guardsInAll_28 : decode cX12_guardsInAll 28 = .ok (.iload_n 1, 1) := by decide +kernel
theorem dX12_guardsInAll_29 : decode cX12_guardsInAll 29 = .ok (.ireturn, 1) := by decide +kernel
theorem dX12_count_0 : decode cX12_count 0 = .ok (.iload_n 1, 1) := by decide +kernel
theorem dX12_count_1 : decode cX12_count 1 = .ok (.tableswitch 161 0 13 #[71, 78, 85, 94, 99, 104, 109, 114, 123, 132, 137, 142, 147, 156], 71) := by decide +kernel
theorem dX12_count_72 : decode cX12_count 72 = .ok (.aload_n 0, 1) := by decide +kernel
theorem dX12_count_73 : decode cX12_count 73 = .ok (.getfield 52, 3) := by decide +kernel
theorem dX12_count_76 : decode cX12_count 76 = .ok (.iconst 0, 1) := by decide +kernel
theorem dX12_count_77 : decode cX12_count 77 = .ok (.iaload, 1) := by decide +kernel
theorem dX12_count_78 : decode cX12_count 78 = .ok (.ireturn, 1) := by decide +kernel
theorem dX12_count_79 : decode cX12_count 79 = .ok (.aload_n 0, 1) := by decide +kernel
theorem dX12_count_80 : decode cX12_count 80 = .ok (.getfield 52, 3) := by decide +kernel
theorem dX12_count_83 : decode cX12_count 83 = .ok (.iconst 1, 1) := by decide +kernel
theorem dX12_count_84 : decode cX12_count 84 = .ok (.iaload, 1) := by decide +kernel
theorem dX12_count_85 : decode cX12_count 85 = .ok (.ireturn, 1) := by decide +kernel
theorem dX12_count_86 : decode cX12_count 86 = .ok (.aload_n 0, 1) := by decide +kernel
theorem dX12_count_87 : decode cX12_count 87 = .ok (.getfield 58, 3) := by decide +kernel
theorem dX12_count_90 : decode cX12_count 90 = .ok (.sipush 136, 3) := by decide +kernel
theorem dX12_count_93 : decode cX12_count 93 = .ok (.iaload, 1) := by decide +kernel
theorem dX12_count_94 : decode cX12_count 94 = .ok (.ireturn, 1) := by decide +kernel
theorem dX12_count_95 : decode cX12_count 95 = .ok (.aload_n 0, 1) := by decide +kernel
theorem dX12_count_96 : decode cX12_count 96 = .ok (.invokevirtual 483, 3) := by decide +kernel
theorem dX12_count_99 : decode cX12_count 99 = .ok (.ireturn, 1) := by decide +kernel
theorem dX12_count_100 : decode cX12_count 100 = .ok (.aload_n 0, 1) := by decide +kernel
theorem dX12_count_101 : decode cX12_count 101 = .ok (.getfield 314, 3) := by decide +kernel
theorem dX12_count_104 : decode cX12_count 104 = .ok (.ireturn, 1) := by decide +kernel
theorem dX12_count_105 : decode cX12_count 105 = .ok (.aload_n 0, 1) := by decide +kernel
theorem dX12_count_106 : decode cX12_count 106 = .ok (.getfield 130, 3) := by decide +kernel
theorem dX12_count_109 : decode cX12_count 109 = .ok (.ireturn, 1) := by decide +kernel
theorem dX12_count_110 : decode cX12_count 110 = .ok (.aload_n 0, 1) := by decide +kernel
theorem dX12_count_111 : decode cX12_count 111 = .ok (.getfield 67, 3) := by decide +kernel
theorem dX12_count_114 : decode cX12_count 114 = .ok (.ireturn, 1) := by decide +kernel
theorem dX12_count_115 : decode cX12_count 115 = .ok (.aload_n 0, 1) := by decide +kernel
theorem dX12_count_116 : decode cX12_count 116 = .ok (.getfield 58, 3) := by decide +kernel
theorem dX12_count_119 : decode cX12_count 119 = .ok (.sipush 137, 3) := by decide +kernel
theorem dX12_count_122 : decode cX12_count 122 = .ok (.iaload, 1) := by decide +kernel
theorem dX12_count_123 : decode cX12_count 123 = .ok (.ireturn, 1) := by decide +kernel
theorem dX12_count_124 : decode cX12_count 124 = .ok (.aload_n 0, 1) := by decide +kernel
theorem dX12_count_125 : decode cX12_count 125 = .ok (.getfield 58, 3) := by decide +kernel
theorem dX12_count_128 : decode cX12_count 128 = .ok (.sipush 138, 3) := by decide +kernel
theorem dX12_count_131 : decode cX12_count 131 = .ok (.iaload, 1) := by decide +kernel
theorem dX12_count_132 : decode cX12_count 132 = .ok (.ireturn, 1) := by decide +kernel
theorem dX12_count_133 : decode cX12_count 133 = .ok (.aload_n 0, 1) := by decide +kernel
theorem dX12_count_134 : decode cX12_count 134 = .ok (.getfield 379, 3) := by decide +kernel
theorem dX12_count_137 : decode cX12_count 137 = .ok (.ireturn, 1) := by decide +kernel
theorem dX12_count_138 : decode cX12_count 138 = .ok (.aload_n 0, 1) := by decide +kernel
theorem dX12_count_139 : decode cX12_count 139 = .ok (.invokevirtual 458, 3) := by decide +kernel
theorem dX12_count_142 : decode cX12_count 142 = .ok (.ireturn, 1) := by decide +kernel
theorem dX12_count_143 : decode cX12_count 143 = .ok (.aload_n 0, 1) := by decide +kernel
theorem dX12_count_144 : decode cX12_count 144 = .ok (.getfield 301, 3) := by decide +kernel
theorem dX12_count_147 : decode cX12_count 147 = .ok (.ireturn, 1) := by decide +kernel
theorem dX12_count_148 : decode cX12_count 148 = .ok (.aload_n 0, 1) := by decide +kernel
theorem dX12_count_149 : decode cX12_count 149 = .ok (.getfield 58, 3) := by decide +kernel
theorem dX12_count_152 : decode cX12_count 152 = .ok (.sipush 139, 3) := by decide +kernel
theorem dX12_count_155 : decode cX12_count 155 = .ok (.iaload, 1) := by decide +kernel
theorem dX12_count_156 : decode cX12_count 156 = .ok (.ireturn, 1) := by decide +kernel
theorem dX12_count_157 : decode cX12_count 157 = .ok (.aload_n 0, 1) := by decide +kernel
theorem dX12_count_158 : decode cX12_count 158 = .ok (.getfield 304, 3) := by decide +kernel
theorem dX12_count_161 : decode cX12_count 161 = .ok (.ireturn, 1) := by decide +kernel
theorem dX12_count_162 : decode cX12_count 162 = .ok (.ldc_w 339, 3) := by decide +kernel
theorem dX12_count_165 : decode cX12_count 165 = .ok (.ireturn, 1) := by decide +kernel
