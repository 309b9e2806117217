theorem dX9_init_0 : decode cX9_init 0 = .ok (.aload_n 0, 1) := by decide +kernel
theorem dX9_init_1 : decode cX9_init 1 = .ok (.invokespecial 1, 3) := by decide +kernel
theorem dX9_init_4 : decode cX9_init 4 = .ok (.aload_n 0, 1) := by decide +kernel
theorem dX9_init_5 : decode cX9_init 5 = .ok (.sipush 240, 3) := by decide +kernel
theorem dX9_init_8 : decode cX9_init 8 = .ok (.newarray .int, 2) := by decide +kernel
theorem dX9_init_10 : decode cX9_init 10 = .ok (.putfield 7, 3) := by decide +kernel
theorem dX9_init_13 : decode cX9_init 13 = .ok (.aload_n 0, 1) := by decide +kernel
theorem dX9_init_14 : decode cX9_init 14 = .ok (.sipush 240, 3) := by decide +kernel
theorem dX9_init_17 : decode cX9_init 17 = .ok (.newarray .int, 2) := by decide +kernel
theorem dX9_init_19 : decode cX9_init 19 = .ok (.putfield 13, 3) := by decide +kernel
theorem dX9_init_22 : decode cX9_init 22 = .ok (.aload_n 0, 1) := by decide +kernel
theorem dX9_init_23 : decode cX9_init 23 = .ok (.bipush 30, 2) := by decide +kernel
theorem dX9_init_25 : decode cX9_init 25 = .ok (.newarray .int, 2) := by decide +kernel
theorem dX9_init_27 : decode cX9_init 27 = .ok (.putfield 16, 3) := by decide +kernel
theorem dX9_init_30 : decode cX9_init 30 = .ok (.aload_n 0, 1) := by decide +kernel
theorem dX9_init_31 : decode cX9_init 31 = .ok (.iconst 3, 1) := by decide +kernel
theorem dX9_init_32 : decode cX9_init 32 = .ok (.newarray .int, 2) := by decide +kernel
theorem dX9_init_34 : decode cX9_init 34 = .ok (.putfield 19, 3) := by decide +kernel
theorem dX9_init_37 : decode cX9_init 37 = .ok (.aload_n 0, 1) := by decide +kernel
theorem dX9_init_38 : decode cX9_init 38 = .ok (.iconst 3, 1) := by decide +kernel
theorem dX9_init_39 : decode cX9_init 39 = .ok (.newarray .int, 2) := by decide +kernel
theorem dX9_init_41 : decode cX9_init 41 = .ok (.putfield 22, 3) := by decide +kernel
theorem dX9_init_44 : decode cX9_init 44 = .ok (.aload_n 0, 1) := by decide +kernel
theorem dX9_init_45 : decode cX9_init 45 = .ok (.bipush 10, 2) := by decide +kernel
theorem dX9_init_47 : decode cX9_init 47 = .ok (.newarray .int, 2) := by decide +kernel
theorem dX9_init_49 : decode cX9_init 49 = .ok (.putfield 25, 3) := by decide +kernel
theorem dX9_init_52 : decode cX9_init 52 = .ok (.aload_n 0, 1) := by decide +kernel
theorem dX9_init_53 : decode cX9_init 53 = .ok (.bipush 8, 2) := by decide +kernel
theorem dX9_init_55 : decode cX9_init 55 = .ok (.newarray .int, 2) := by decide +kernel
theorem dX9_init_57 : decode cX9_init 57 = .ok (.putfield 28, 3) := by decide +kernel
theorem dX9_init_60 : decode cX9_init 60 = .ok (.aload_n 0, 1) := by decide +kernel
theorem dX9_init_61 : decode cX9_init 61 = .ok (.bipush 10, 2) := by decide +kernel
theorem dX9_init_63 : decode cX9_init 63 = .ok (.newarray .int, 2) := by decide +kernel
theorem dX9_init_65 : decode cX9_init 65 = .ok (.putfield 31, 3) := by decide +kernel
theorem dX9_init_68 : decode cX9_init 68 = .ok (.aload_n 0, 1) := by decide +kernel
theorem dX9_init_69 : decode cX9_init 69 = .ok (.sipush 900, 3) := by decide +kernel
theorem dX9_init_72 : decode cX9_init 72 = .ok (.newarray .int, 2) := by decide +kernel
theorem dX9_init_74 : decode cX9_init 74 = .ok (.putfield 34, 3) := by decide +kernel
theorem dX9_init_77 : decode cX9_init 77 = .ok (.aload_n 0, 1) := by decide +kernel
theorem dX9_init_78 : decode cX9_init 78 = .ok (.iconst (-1), 1) := by decide +kernel
theorem dX9_init_79 : decode cX9_init 79 = .ok (.putfield 37, 3) := by decide +kernel
theorem dX9_init_82 : decode cX9_init 82 = .ok (.aload_n 0, 1) := by decide +kernel
theorem dX9_init_83 : decode cX9_init 83 = .ok (.sipush 2064, 3) := by decide +kernel
theorem dX9_init_86 : decode cX9_init 86 = .ok (.newarray .int, 2) := by decide +kernel
theorem dX9_init_88 : decode cX9_init 88 = .ok (.putfield 41, 3) := by decide +kernel
theorem dX9_init_91 : decode cX9_init 91 = .ok (.aload_n 0, 1) := by decide +kernel
theorem dX9_init_92 : decode cX9_init 92 = .ok (.bipush 100, 2) := by decide +kernel
theorem dX9_init_94 : decode cX9_init 94 = .ok (.newarray .long, 2) := by decide +kernel
theorem dX9_init_96 : decode cX9_init 96 = .ok (.putfield 44, 3) := by decide +kernel
theorem dX9_init_99 : decode cX9_init 99 = .ok (.aload_n 0, 1) := by decide +kernel
theorem dX9_init_100 : decode cX9_init 100 = .ok (.bipush 10, 2) := by decide +kernel
theorem dX9_init_102 : decode cX9_init 102 = .ok (.newarray .long, 2) := by decide +kernel
theorem dX9_init_104 : decode cX9_init 104 = .ok (.putfield 48, 3) := by decide +kernel
theorem dX9_init_107 : decode cX9_init 107 = .ok (.aload_n 0, 1) := by decide +kernel
theorem dX9_init_108 : decode cX9_init 108 = .ok (.bipush 10, 2) := by decide +kernel
theorem dX9_init_110 : decode cX9_init 110 = .ok (.newarray .int, 2) := by decide +kernel
theorem dX9_init_112 : decode cX9_init 112 = .ok (.putfield 51, 3) := by decide +kernel
theorem dX9_init_115 : decode cX9_init 115 = .ok (.aload_n 0, 1) := by decide +kernel
theorem dX9_init_116 : decode cX9_init 116 = .ok (.sipush 520, 3) := by decide +kernel
theorem dX9_init_119 : decode cX9_init 119 = .ok (.newarray .int, 2) := by decide +kernel
theorem dX9_init_121 : decode cX9_init 121 = .ok (.putfield 54, 3) := by decide +kernel
theorem dX9_init_124 : decode cX9_init 124 = .ok (.aload_n 0, 1) := by decide +kernel
theorem dX9_init_125 : decode cX9_init 125 = .ok (.sipush 5200, 3) := by decide +kernel
theorem dX9_init_128 : decode cX9_init 128 = .ok (.newarray .int, 2) := by decide +kernel
theorem dX9_init_130 : decode cX9_init 130 = .ok (.putfield 57, 3) := by decide +kernel
theorem dX9_init_133 : decode cX9_init 133 = .ok (.aload_n 0, 1) := by decide +kernel
theorem dX9_init_134 : decode cX9_init 134 = .ok (.sipush 520, 3) := by decide +kernel
theorem dX9_init_137 : decode cX9_init 137 = .ok (.newarray .int, 2) := by decide +kernel
theorem dX9_init_139 : decode cX9_init 139 = .ok (.putfield 60, 3) := by decide +kernel
theorem dX9_init_142 : decode cX9_init 142 = .ok (.aload_n 0, 1) := by decide +kernel
theorem dX9_init_143 : decode cX9_init 143 = .ok (.iconst 2, 1) := by decide +kernel
theorem dX9_init_144 : decode cX9_init 144 = .ok (.newarray .int, 2) := by decide +kernel
theorem dX9_init_146 : decode cX9_init 146 = .ok (.putfield 63, 3) := by decide +kernel
theorem dX9_init_149 : decode cX9_init 149 = .ok (.aload_n 0, 1) := by decide +kernel
theorem dX9_init_150 : decode cX9_init 150 = .ok (.iconst 2, 1) := by decide +kernel
theorem dX9_init_151 : decode cX9_init 151 = .ok (.newarray .int, 2) := by decide +kernel
theorem dX9_init_153 : decode cX9_init 153 = .ok (.putfield 66, 3) := by decide +kernel
theorem dX9_init_156 : decode cX9_init 156 = .ok (.aload_n 0, 1) := by decide +kernel
theorem dX9_init_157 : decode cX9_init 157 = .ok (.bipush 8, 2) := by decide +kernel
theorem dX9_init_159 : decode cX9_init 159 = .ok (.newarray .int, 2) := by decide +kernel
theorem dX9_init_161 : decode cX9_init 161 = .ok (.putfield 69, 3) := by decide +kernel
theorem dX9_init_164 : decode cX9_init 164 = .ok (.aload_n 0, 1) := by decide +kernel
theorem dX9_init_165 : decode cX9_init 165 = .ok (.bipush 8, 2) := by decide +kernel
theorem dX9_init_167 : decode cX9_init 167 = .ok (.newarray .int, 2) := by decide +kernel
theorem dX9_init_169 : decode cX9_init 169 = .ok (.putfield 72, 3) := by decide +kernel
theorem dX9_init_172 : decode cX9_init 172 = .ok (.aload_n 0, 1) := by decide +kernel
theorem dX9_init_173 : decode cX9_init 173 = .ok (.bipush 10, 2) := by decide +kernel
theorem dX9_init_175 : decode cX9_init 175 = .ok (.newarray .int, 2) := by decide +kernel
theorem dX9_init_177 : decode cX9_init 177 = .ok (.putfield 75, 3) := by decide +kernel
theorem dX9_init_180 : decode cX9_init 180 = .ok (.aload_n 0, 1) := by decide +kernel
theorem dX9_init_181 : decode cX9_init 181 = .ok (.bipush 8, 2) := by decide +kernel
theorem dX9_init_183 : decode cX9_init 183 = .ok (.newarray .int, 2) := by decide +kernel
theorem dX9_init_185 : decode cX9_init 185 = .ok (.putfield 78, 3) := by decide +kernel
theorem dX9_init_188 : decode cX9_init 188 = .ok (.aload_n 0, 1) := by decide +kernel
theorem dX9_init_189 : decode cX9_init 189 = .ok (.sipush 1300, 3) := by decide +kernel
theorem dX9_init_192 : decode cX9_init 192 = .ok (.newarray .boolean, 2) := by decide +kernel
theorem dX9_init_194 : decode cX9_init 194 = .ok (.putfield 81, 3) := by decide +kernel
theorem dX9_init_197 : decode cX9_init 197 = .ok (.aload_n 0, 1) := by decide +kernel
theorem dX9_init_198 : decode cX9_init 198 = .ok (.sipush 6000, 3) := by decide +kernel
theorem dX9_init_201 : decode cX9_init 201 = .ok (.newarray .int, 2) := by decide +kernel
theorem dX9_init_203 : decode cX9_init 203 = .ok (.putfield 85, 3) := by decide +kernel
theorem dX9_init_206 : decode cX9_init 206 = .ok (.aload_n 0, 1) := by decide +kernel
theorem dX9_init_207 : decode cX9_init 207 = .ok (.sipush 600, 3) := by decide +kernel
theorem dX9_init_210 : decode cX9_init 210 = .ok (.newarray .int, 2) := by decide +kernel
theorem dX9_init_212 : decode cX9_init 212 = .ok (.putfield 88, 3) := by decide +kernel
theorem dX9_init_215 : decode cX9_init 215 = .ok (.aload_n 0, 1) := by decide +kernel
theorem dX9_init_216 : decode cX9_init 216 = .ok (.sipush 600, 3) := by decide +kernel
theorem dX9_init_219 : decode cX9_init 219 = .ok (.newarray .int, 2) := by decide +kernel
theorem dX9_init_221 : decode cX9_init 221 = .ok (.putfield 91, 3) := by decide +kernel
theorem dX9_init_224 : decode cX9_init 224 = .ok (.aload_n 0, 1) := by decide +kernel
theorem dX9_init_225 : decode cX9_init 225 = .ok (.sipush 600, 3) := by decide +kernel
theorem dX9_init_228 : decode cX9_init 228 = .ok (.newarray .int, 2) := by decide +kernel
theorem dX9_init_230 : decode cX9_init 230 = .ok (.putfield 94, 3) := by decide +kernel
theorem dX9_init_233 : decode cX9_init 233 = .ok (.aload_n 0, 1) := by decide +kernel
theorem dX9_init_234 : decode cX9_init 234 = .ok (.sipush 600, 3) := by decide +kernel
theorem dX9_init_237 : decode cX9_init 237 = .ok (.newarray .int, 2) := by decide +kernel
theorem dX9_init_239 : decode cX9_init 239 = .ok (.putfield 97, 3) := by decide +kernel
theorem dX9_init_242 : decode cX9_init 242 = .ok (.aload_n 0, 1) := by decide +kernel
theorem dX9_init_243 : decode cX9_init 243 = .ok (.sipush 4800, 3) := by decide +kernel
theorem dX9_init_246 : decode cX9_init 246 = .ok (.newarray .int, 2) := by decide +kernel
theorem dX9_init_248 : decode cX9_init 248 = .ok (.putfield 100, 3) := by decide +kernel
theorem dX9_init_251 : decode cX9_init 251 = .ok (.aload_n 0, 1) := by decide +kernel
theorem dX9_init_252 : decode cX9_init 252 = .ok (.iconst 2, 1) := by decide +kernel
theorem dX9_init_253 : decode cX9_init 253 = .ok (.newarray .int, 2) := by decide +kernel
theorem dX9_init_255 : decode cX9_init 255 = .ok (.putfield 103, 3) := by decide +kernel
theorem dX9_init_258 : decode cX9_init 258 = .ok (.aload_n 0, 1) := by decide +kernel
theorem dX9_init_259 : decode cX9_init 259 = .ok (.bipush 10, 2) := by decide +kernel
theorem dX9_init_261 : decode cX9_init 261 = .ok (.newarray .int, 2) := by decide +kernel
theorem dX9_init_263 : decode cX9_init 263 = .ok (.putfield 106, 3) := by decide +kernel
theorem dX9_init_266 : decode cX9_init 266 = .ok (.aload_n 0, 1) := by decide +kernel
theorem dX9_init_267 : decode cX9_init 267 = .ok (.sipush 300, 3) := by decide +kernel
theorem dX9_init_270 : decode cX9_init 270 = .ok (.newarray .int, 2) := by decide +kernel
theorem dX9_init_272 : decode cX9_init 272 = .ok (.putfield 109, 3) := by decide +kernel
theorem dX9_init_275 : decode cX9_init 275 = .ok (.aload_n 0, 1) := by decide +kernel
theorem dX9_init_276 : decode cX9_init 276 = .ok (.iconst 2, 1) := by decide +kernel
theorem dX9_init_277 : decode cX9_init 277 = .ok (.newarray .boolean, 2) := by decide +kernel
theorem dX9_init_279 : decode cX9_init 279 = .ok (.putfield 112, 3) := by decide +kernel
theorem dX9_init_282 : decode cX9_init 282 = .ok (.aload_n 0, 1) := by decide +kernel
theorem dX9_init_283 : decode cX9_init 283 = .ok (.sipush 300, 3) := by decide +kernel
theorem dX9_init_286 : decode cX9_init 286 = .ok (.newarray .boolean, 2) := by decide +kernel
theorem dX9_init_288 : decode cX9_init 288 = .ok (.putfield 115, 3) := by decide +kernel
theorem dX9_init_291 : decode cX9_init 291 = .ok (.aload_n 0, 1) := by decide +kernel
theorem dX9_init_292 : decode cX9_init 292 = .ok (.sipush 300, 3) := by decide +kernel
theorem dX9_init_295 : decode cX9_init 295 = .ok (.newarray .boolean, 2) := by decide +kernel
theorem dX9_init_297 : decode cX9_init 297 = .ok (.putfield 118, 3) := by decide +kernel
theorem dX9_init_300 : decode cX9_init 300 = .ok (.aload_n 0, 1) := by decide +kernel
theorem dX9_init_301 : decode cX9_init 301 = .ok (.sipush 300, 3) := by decide +kernel
theorem dX9_init_304 : decode cX9_init 304 = .ok (.newarray .boolean, 2) := by decide +kernel
theorem dX9_init_306 : decode cX9_init 306 = .ok (.putfield 121, 3) := by decide +kernel
theorem dX9_init_309 : decode cX9_init 309 = .ok (.aload_n 0, 1) := by decide +kernel
theorem dX9_init_310 : decode cX9_init 310 = .ok (.bipush 20, 2) := by decide +kernel
theorem dX9_init_312 : decode cX9_init 312 = .ok (.newarray .int, 2) := by decide +kernel
theorem dX9_init_314 : decode cX9_init 314 = .ok (.putfield 124, 3) := by decide +kernel
theorem dX9_init_317 : decode cX9_init 317 = .ok (.aload_n 0, 1) := by decide +kernel
theorem dX9_init_318 : decode cX9_init 318 = .ok (.bipush 20, 2) := by decide +kernel
theorem dX9_init_320 : decode cX9_init 320 = .ok (.newarray .int, 2) := by decide +kernel
theorem dX9_init_322 : decode cX9_init 322 = .ok (.putfield 127, 3) := by decide +kernel
theorem dX9_init_325 : decode cX9_init 325 = .ok (.aload_n 0, 1) := by decide +kernel
theorem dX9_init_326 : decode cX9_init 326 = .ok (.bipush 20, 2) := by decide +kernel
theorem dX9_init_328 : decode cX9_init 328 = .ok (.newarray .int, 2) := by decide +kernel
theorem dX9_init_330 : decode cX9_init 330 = .ok (.putfield 130, 3) := by decide +kernel
theorem dX9_init_333 : decode cX9_init 333 = .ok (.return_, 1) := by decide +kernel
theorem dX9_thrown_0 : decode cX9_thrown 0 = .ok (.aload_n 0, 1) := by decide +kernel
theorem dX9_thrown_1 : decode cX9_thrown 1 = .ok (.getfield 133, 3) := by decide +kernel
theorem dX9_thrown_4 : decode cX9_thrown 4 = .ok (.ireturn, 1) := by decide +kernel
theorem dX9_in_0 : decode cX9_in 0 = .ok (.iload_n 0, 1) := by decide +kernel
theorem dX9_in_1 : decode cX9_in 1 = .ok (.iload_n 1, 1) := by decide +kernel
theorem dX9_in_2 : decode cX9_in 2 = .ok (.if_icmp .lt 12, 3) := by decide +kernel
theorem dX9_in_5 : decode cX9_in 5 = .ok (.iload_n 0, 1) := by decide +kernel
theorem dX9_in_6 : decode cX9_in 6 = .ok (.iload_n 2, 1) := by decide +kernel
theorem dX9_in_7 : decode cX9_in 7 = .ok (.if_icmp .gt 7, 3) := by decide +kernel
theorem dX9_in_10 : decode cX9_in 10 = .ok (.iconst 1, 1) := by decide +kernel
theorem dX9_in_11 : decode cX9_in 11 = .ok (.goto 4, 3) := by decide +kernel
theorem dX9_in_14 : decode cX9_in 14 = .ok (.iconst 0, 1) := by decide +kernel
theorem dX9_in_15 : decode cX9_in 15 = .ok (.ireturn, 1) := by decide +kernel
theorem dX9_isOf_0 : decode cX9_isOf 0 = .ok (.iload_n 0, 1) := by decide +kernel
theorem dX9_isOf_1 : decode cX9_isOf 1 = .ok (.iload_n 1, 1) := by decide +kernel
theorem dX9_isOf_2 : decode cX9_isOf 2 = .ok (.ishr, 1) := by decide +kernel
theorem dX9_isOf_3 : decode cX9_isOf 3 = .ok (.iconst 1, 1) := by decide +kernel
theorem dX9_isOf_4 : decode cX9_isOf 4 = .ok (.iand, 1) := by decide +kernel
theorem dX9_isOf_5 : decode cX9_isOf 5 = .ok (.iconst 1, 1) := by decide +kernel
theorem dX9_isOf_6 : decode cX9_isOf 6 = .ok (.if_icmp .ne 7, 3) := by decide +kernel
theorem dX9_isOf_9 : decode cX9_isOf 9 = .ok (.iconst 1, 1) := by decide +kernel
theorem dX9_isOf_10 : decode cX9_isOf 10 = .ok (.goto 4, 3) := by decide +kernel
theorem dX9_isOf_13 : decode cX9_isOf 13 = .ok (.iconst 0, 1) := by decide +kernel
theorem dX9_isOf_14 : decode cX9_isOf 14 = .ok (.ireturn, 1) := by decide +kernel
theorem dX9_lesser_0 : decode cX9_lesser 0 = .ok (.iload_n 0, 1) := by decide +kernel
theorem dX9_lesser_1 : decode cX9_lesser 1 = .ok (.iload_n 1, 1) := by decide +kernel
theorem dX9_lesser_2 : decode cX9_lesser 2 = .ok (.if_icmp .ge 7, 3) := by decide +kernel
theorem dX9_lesser_5 : decode cX9_lesser 5 = .ok (.iload_n 0, 1) := by decide +kernel
theorem dX9_lesser_6 : decode cX9_lesser 6 = .ok (.goto 4, 3) := by decide +kernel
theorem dX9_lesser_9 : decode cX9_lesser 9 = .ok (.iload_n 1, 1) := by decide +kernel
theorem dX9_lesser_10 : decode cX9_lesser 10 = .ok (.ireturn, 1) := by decide +kernel
theorem dX9_greater_0 : decode cX9_greater 0 = .ok (.iload_n 0, 1) := by decide +kernel
theorem dX9_greater_1 : decode cX9_greater 1 = .ok (.iload_n 1, 1) := by decide +kernel
theorem dX9_greater_2 : decode cX9_greater 2 = .ok (.if_icmp .le 7, 3) := by decide +kernel
theorem dX9_greater_5 : decode cX9_greater 5 = .ok (.iload_n 0, 1) := by decide +kernel
theorem dX9_greater_6 : decode cX9_greater 6 = .ok (.goto 4, 3) := by decide +kernel
theorem dX9_greater_9 : decode cX9_greater 9 = .ok (.iload_n 1, 1) := by decide +kernel
theorem dX9_greater_10 : decode cX9_greater 10 = .ok (.ireturn, 1) := by decide +kernel
theorem dX9_many_0 : decode cX9_many 0 = .ok (.iconst 0, 1) := by decide +kernel
theorem dX9_many_1 : decode cX9_many 1 = .ok (.istore_n 1, 1) := by decide +kernel
theorem dX9_many_2 : decode cX9_many 2 = .ok (.iconst 0, 1) := by decide +kernel
theorem dX9_many_3 : decode cX9_many 3 = .ok (.istore_n 2, 1) := by decide +kernel
theorem dX9_many_4 : decode cX9_many 4 = .ok (.iload_n 2, 1) := by decide +kernel
theorem dX9_many_5 : decode cX9_many 5 = .ok (.bipush 10, 2) := by decide +kernel
theorem dX9_many_7 : decode cX9_many 7 = .ok (.if_icmp .ge 17, 3) := by decide +kernel
theorem dX9_many_10 : decode cX9_many 10 = .ok (.iload_n 1, 1) := by decide +kernel
theorem dX9_many_11 : decode cX9_many 11 = .ok (.iload_n 0, 1) := by decide +kernel
theorem dX9_many_12 : decode cX9_many 12 = .ok (.iload_n 2, 1) := by decide +kernel
theorem dX9_many_13 : decode cX9_many 13 = .ok (.ishr, 1) := by decide +kernel
theorem dX9_many_14 : decode cX9_many 14 = .ok (.iconst 1, 1) := by decide +kernel
theorem dX9_many_15 : decode cX9_many 15 = .ok (.iand, 1) := by decide +kernel
theorem dX9_many_16 : decode cX9_many 16 = .ok (.iadd, 1) := by decide +kernel
theorem dX9_many_17 : decode cX9_many 17 = .ok (.istore_n 1, 1) := by decide +kernel
theorem dX9_many_18 : decode cX9_many 18 = .ok (.iinc 2 1, 3) := by decide +kernel
theorem dX9_many_21 : decode cX9_many 21 = .ok (.goto (-17), 3) := by decide +kernel
theorem dX9_many_24 : decode cX9_many 24 = .ok (.iload_n 1, 1) := by decide +kernel
theorem dX9_many_25 : decode cX9_many 25 = .ok (.ireturn, 1) := by decide +kernel
theorem dX9_isPlace_0 : decode cX9_isPlace 0 = .ok (.iload_n 1, 1) := by decide +kernel
theorem dX9_isPlace_1 : decode cX9_isPlace 1 = .ok (.iconst 0, 1) := by decide +kernel
theorem dX9_isPlace_2 : decode cX9_isPlace 2 = .ok (.bipush 9, 2) := by decide +kernel
theorem dX9_isPlace_4 : decode cX9_isPlace 4 = .ok (.invokestatic 136, 3) := by decide +kernel
theorem dX9_isPlace_7 : decode cX9_isPlace 7 = .ok (.ifCond .eq 20, 3) := by decide +kernel
theorem dX9_isPlace_10 : decode cX9_isPlace 10 = .ok (.aload_n 0, 1) := by decide +kernel
theorem dX9_isPlace_11 : decode cX9_isPlace 11 = .ok (.getfield 19, 3) := by decide +kernel
theorem dX9_isPlace_14 : decode cX9_isPlace 14 = .ok (.iconst 0, 1) := by decide +kernel
theorem dX9_isPlace_15 : decode cX9_isPlace 15 = .ok (.iaload, 1) := by decide +kernel
theorem dX9_isPlace_16 : decode cX9_isPlace 16 = .ok (.iload_n 1, 1) := by decide +kernel
theorem dX9_isPlace_17 : decode cX9_isPlace 17 = .ok (.invokestatic 140, 3) := by decide +kernel
theorem dX9_isPlace_20 : decode cX9_isPlace 20 = .ok (.ifCond .eq 7, 3) := by decide +kernel
theorem dX9_isPlace_23 : decode cX9_isPlace 23 = .ok (.iconst 1, 1) := by decide +kernel
theorem dX9_isPlace_24 : decode cX9_isPlace 24 = .ok (.goto 4, 3) := by decide +kernel
theorem dX9_isPlace_27 : decode cX9_isPlace 27 = .ok (.iconst 0, 1) := by decide +kernel
theorem dX9_isPlace_28 : decode cX9_isPlace 28 = .ok (.ireturn, 1) := by decide +kernel
theorem dX9_isStep_0 : decode cX9_isStep 0 = .ok (.iload_n 1, 1) := by decide +kernel
theorem dX9_isStep_1 : decode cX9_isStep 1 = .ok (.iconst 0, 1) := by decide +kernel
theorem dX9_isStep_2 : decode cX9_isStep 2 = .ok (.bipush 7, 2) := by decide +kernel
theorem dX9_isStep_4 : decode cX9_isStep 4 = .ok (.invokestatic 136, 3) := by decide +kernel
theorem dX9_isStep_7 : decode cX9_isStep 7 = .ok (.ifCond .eq 20, 3) := by decide +kernel
theorem dX9_isStep_10 : decode cX9_isStep 10 = .ok (.aload_n 0, 1) := by decide +kernel
theorem dX9_isStep_11 : decode cX9_isStep 11 = .ok (.getfield 22, 3) := by decide +kernel
theorem dX9_isStep_14 : decode cX9_isStep 14 = .ok (.iconst 0, 1) := by decide +kernel
theorem dX9_isStep_15 : decode cX9_isStep 15 = .ok (.iaload, 1) := by decide +kernel
theorem dX9_isStep_16 : decode cX9_isStep 16 = .ok (.iload_n 1, 1) := by decide +kernel
theorem dX9_isStep_17 : decode cX9_isStep 17 = .ok (.invokestatic 140, 3) := by decide +kernel
theorem dX9_isStep_20 : decode cX9_isStep 20 = .ok (.ifCond .eq 7, 3) := by decide +kernel
theorem dX9_isStep_23 : decode cX9_isStep 23 = .ok (.iconst 1, 1) := by decide +kernel
theorem dX9_isStep_24 : decode cX9_isStep 24 = .ok (.goto 4, 3) := by decide +kernel
theorem dX9_isStep_27 : decode cX9_isStep 27 = .ok (.iconst 0, 1) := by decide +kernel
theorem dX9_isStep_28 : decode cX9_isStep 28 = .ok (.ireturn, 1) := by decide +kernel
theorem dX9_arcAt_0 : decode cX9_arcAt 0 = .ok (.bipush 80, 2) := by decide +kernel
theorem dX9_arcAt_2 : decode cX9_arcAt 2 = .ok (.iload_n 1, 1) := by decide +kernel
theorem dX9_arcAt_3 : decode cX9_arcAt 3 = .ok (.imul, 1) := by decide +kernel
theorem dX9_arcAt_4 : decode cX9_arcAt 4 = .ok (.bipush 10, 2) := by decide +kernel
theorem dX9_arcAt_6 : decode cX9_arcAt 6 = .ok (.iload_n 2, 1) := by decide +kernel
theorem dX9_arcAt_7 : decode cX9_arcAt 7 = .ok (.imul, 1) := by decide +kernel
theorem dX9_arcAt_8 : decode cX9_arcAt 8 = .ok (.iadd, 1) := by decide +kernel
theorem dX9_arcAt_9 : decode cX9_arcAt 9 = .ok (.iload_n 3, 1) := by decide +kernel
theorem dX9_arcAt_10 : decode cX9_arcAt 10 = .ok (.iadd, 1) := by decide +kernel
theorem dX9_arcAt_11 : decode cX9_arcAt 11 = .ok (.ireturn, 1) := by decide +kernel
theorem dX9_change_0 : decode cX9_change 0 = .ok (.aload_n 0, 1) := by decide +kernel
theorem dX9_change_1 : decode cX9_change 1 = .ok (.getfield 13, 3) := by decide +kernel
theorem dX9_change_4 : decode cX9_change 4 = .ok (.aload_n 0, 1) := by decide +kernel
theorem dX9_change_5 : decode cX9_change 5 = .ok (.iload_n 1, 1) := by decide +kernel
theorem dX9_change_6 : decode cX9_change 6 = .ok (.iload_n 2, 1) := by decide +kernel
theorem dX9_change_7 : decode cX9_change 7 = .ok (.iload_n 3, 1) := by decide +kernel
theorem dX9_change_8 : decode cX9_change 8 = .ok (.invokevirtual 144, 3) := by decide +kernel
theorem dX9_change_11 : decode cX9_change 11 = .ok (.iaload, 1) := by decide +kernel
theorem dX9_change_12 : decode cX9_change 12 = .ok (.aload_n 0, 1) := by decide +kernel
theorem dX9_change_13 : decode cX9_change 13 = .ok (.getfield 7, 3) := by decide +kernel
theorem dX9_change_16 : decode cX9_change 16 = .ok (.aload_n 0, 1) := by decide +kernel
theorem dX9_change_17 : decode cX9_change 17 = .ok (.iload_n 1, 1) := by decide +kernel
theorem dX9_change_18 : decode cX9_change 18 = .ok (.iload_n 2, 1) := by decide +kernel
theorem dX9_change_19 : decode cX9_change 19 = .ok (.iload_n 3, 1) := by decide +kernel
theorem dX9_change_20 : decode cX9_change 20 = .ok (.invokevirtual 144, 3) := by decide +kernel
theorem dX9_change_23 : decode cX9_change 23 = .ok (.iaload, 1) := by decide +kernel
theorem dX9_change_24 : decode cX9_change 24 = .ok (.isub, 1) := by decide +kernel
theorem dX9_change_25 : decode cX9_change 25 = .ok (.ireturn, 1) := by decide +kernel
theorem dX9_copies_0 : decode cX9_copies 0 = .ok (.iconst 0, 1) := by decide +kernel
theorem dX9_copies_1 : decode cX9_copies 1 = .ok (.istore_n 3, 1) := by decide +kernel
theorem dX9_copies_2 : decode cX9_copies 2 = .ok (.iload_n 3, 1) := by decide +kernel
theorem dX9_copies_3 : decode cX9_copies 3 = .ok (.bipush 80, 2) := by decide +kernel
theorem dX9_copies_5 : decode cX9_copies 5 = .ok (.if_icmp .ge 53, 3) := by decide +kernel
theorem dX9_copies_8 : decode cX9_copies 8 = .ok (.aload_n 0, 1) := by decide +kernel
theorem dX9_copies_9 : decode cX9_copies 9 = .ok (.getfield 7, 3) := by decide +kernel
theorem dX9_copies_12 : decode cX9_copies 12 = .ok (.bipush 80, 2) := by decide +kernel
theorem dX9_copies_14 : decode cX9_copies 14 = .ok (.iload_n 2, 1) := by decide +kernel
theorem dX9_copies_15 : decode cX9_copies 15 = .ok (.imul, 1) := by decide +kernel
theorem dX9_copies_16 : decode cX9_copies 16 = .ok (.iload_n 3, 1) := by decide +kernel
theorem dX9_copies_17 : decode cX9_copies 17 = .ok (.iadd, 1) := by decide +kernel
theorem dX9_copies_18 : decode cX9_copies 18 = .ok (.aload_n 0, 1) := by decide +kernel
theorem dX9_copies_19 : decode cX9_copies 19 = .ok (.getfield 7, 3) := by decide +kernel
theorem dX9_copies_22 : decode cX9_copies 22 = .ok (.bipush 80, 2) := by decide +kernel
theorem dX9_copies_24 : decode cX9_copies 24 = .ok (.iload_n 1, 1) := by decide +kernel
theorem dX9_copies_25 : decode cX9_copies 25 = .ok (.imul, 1) := by decide +kernel
theorem dX9_copies_26 : decode cX9_copies 26 = .ok (.iload_n 3, 1) := by decide +kernel
theorem dX9_copies_27 : decode cX9_copies 27 = .ok (.iadd, 1) := by decide +kernel
theorem dX9_copies_28 : decode cX9_copies 28 = .ok (.iaload, 1) := by decide +kernel
theorem dX9_copies_29 : decode cX9_copies 29 = .ok (.iastore, 1) := by decide +kernel
theorem dX9_copies_30 : decode cX9_copies 30 = .ok (.aload_n 0, 1) := by decide +kernel
theorem dX9_copies_31 : decode cX9_copies 31 = .ok (.getfield 13, 3) := by decide +kernel
theorem dX9_copies_34 : decode cX9_copies 34 = .ok (.bipush 80, 2) := by decide +kernel
theorem dX9_copies_36 : decode cX9_copies 36 = .ok (.iload_n 2, 1) := by decide +kernel
theorem dX9_copies_37 : decode cX9_copies 37 = .ok (.imul, 1) := by decide +kernel
theorem dX9_copies_38 : decode cX9_copies 38 = .ok (.iload_n 3, 1) := by decide +kernel
theorem dX9_copies_39 : decode cX9_copies 39 = .ok (.iadd, 1) := by decide +kernel
theorem dX9_copies_40 : decode cX9_copies 40 = .ok (.aload_n 0, 1) := by decide +kernel
theorem dX9_copies_41 : decode cX9_copies 41 = .ok (.getfield 13, 3) := by decide +kernel
theorem dX9_copies_44 : decode cX9_copies 44 = .ok (.bipush 80, 2) := by decide +kernel
theorem dX9_copies_46 : decode cX9_copies 46 = .ok (.iload_n 1, 1) := by decide +kernel
theorem dX9_copies_47 : decode cX9_copies 47 = .ok (.imul, 1) := by decide +kernel
theorem dX9_copies_48 : decode cX9_copies 48 = .ok (.iload_n 3, 1) := by decide +kernel
theorem dX9_copies_49 : decode cX9_copies 49 = .ok (.iadd, 1) := by decide +kernel
theorem dX9_copies_50 : decode cX9_copies 50 = .ok (.iaload, 1) := by decide +kernel
theorem dX9_copies_51 : decode cX9_copies 51 = .ok (.iastore, 1) := by decide +kernel
theorem dX9_copies_52 : decode cX9_copies 52 = .ok (.iinc 3 1, 3) := by decide +kernel
theorem dX9_copies_55 : decode cX9_copies 55 = .ok (.goto (-53), 3) := by decide +kernel
theorem dX9_copies_58 : decode cX9_copies 58 = .ok (.iconst 0, 1) := by decide +kernel
theorem dX9_copies_59 : decode cX9_copies 59 = .ok (.istore_n 3, 1) := by decide +kernel
theorem dX9_copies_60 : decode cX9_copies 60 = .ok (.iload_n 3, 1) := by decide +kernel
theorem dX9_copies_61 : decode cX9_copies 61 = .ok (.bipush 10, 2) := by decide +kernel
theorem dX9_copies_63 : decode cX9_copies 63 = .ok (.if_icmp .ge 31, 3) := by decide +kernel
theorem dX9_copies_66 : decode cX9_copies 66 = .ok (.aload_n 0, 1) := by decide +kernel
theorem dX9_copies_67 : decode cX9_copies 67 = .ok (.getfield 16, 3) := by decide +kernel
theorem dX9_copies_70 : decode cX9_copies 70 = .ok (.bipush 10, 2) := by decide +kernel
theorem dX9_copies_72 : decode cX9_copies 72 = .ok (.iload_n 2, 1) := by decide +kernel
theorem dX9_copies_73 : decode cX9_copies 73 = .ok (.imul, 1) := by decide +kernel
theorem dX9_copies_74 : decode cX9_copies 74 = .ok (.iload_n 3, 1) := by decide +kernel
theorem dX9_copies_75 : decode cX9_copies 75 = .ok (.iadd, 1) := by decide +kernel
theorem dX9_copies_76 : decode cX9_copies 76 = .ok (.aload_n 0, 1) := by decide +kernel
theorem dX9_copies_77 : decode cX9_copies 77 = .ok (.getfield 16, 3) := by decide +kernel
theorem dX9_copies_80 : decode cX9_copies 80 = .ok (.bipush 10, 2) := by decide +kernel
theorem dX9_copies_82 : decode cX9_copies 82 = .ok (.iload_n 1, 1) := by decide +kernel
theorem dX9_copies_83 : decode cX9_copies 83 = .ok (.imul, 1) := by decide +kernel
theorem dX9_copies_84 : decode cX9_copies 84 = .ok (.iload_n 3, 1) := by decide +kernel
theorem dX9_copies_85 : decode cX9_copies 85 = .ok (.iadd, 1) := by decide +kernel
theorem dX9_copies_86 : decode cX9_copies 86 = .ok (.iaload, 1) := by decide +kernel
theorem dX9_copies_87 : decode cX9_copies 87 = .ok (.iastore, 1) := by decide +kernel
theorem dX9_copies_88 : decode cX9_copies 88 = .ok (.iinc 3 1, 3) := by decide +kernel
theorem dX9_copies_91 : decode cX9_copies 91 = .ok (.goto (-31), 3) := by decide +kernel
theorem dX9_copies_94 : decode cX9_copies 94 = .ok (.aload_n 0, 1) := by decide +kernel
theorem dX9_copies_95 : decode cX9_copies 95 = .ok (.getfield 19, 3) := by decide +kernel
theorem dX9_copies_98 : decode cX9_copies 98 = .ok (.iload_n 2, 1) := by decide +kernel
theorem dX9_copies_99 : decode cX9_copies 99 = .ok (.aload_n 0, 1) := by decide +kernel
theorem dX9_copies_100 : decode cX9_copies 100 = .ok (.getfield 19, 3) := by decide +kernel
theorem dX9_copies_103 : decode cX9_copies 103 = .ok (.iload_n 1, 1) := by decide +kernel
theorem dX9_copies_104 : decode cX9_copies 104 = .ok (.iaload, 1) := by decide +kernel
theorem dX9_copies_105 : decode cX9_copies 105 = .ok (.iastore, 1) := by decide +kernel
theorem dX9_copies_106 : decode cX9_copies 106 = .ok (.aload_n 0, 1) := by decide +kernel
theorem dX9_copies_107 : decode cX9_copies 107 = .ok (.getfield 22, 3) := by decide +kernel
theorem dX9_copies_110 : decode cX9_copies 110 = .ok (.iload_n 2, 1) := by decide +kernel
theorem dX9_copies_111 : decode cX9_copies 111 = .ok (.aload_n 0, 1) := by decide +kernel
theorem dX9_copies_112 : decode cX9_copies 112 = .ok (.getfield 22, 3) := by decide +kernel
theorem dX9_copies_115 : decode cX9_copies 115 = .ok (.iload_n 1, 1) := by decide +kernel
theorem dX9_copies_116 : decode cX9_copies 116 = .ok (.iaload, 1) := by decide +kernel
theorem dX9_copies_117 : decode cX9_copies 117 = .ok (.iastore, 1) := by decide +kernel
theorem dX9_copies_118 : decode cX9_copies 118 = .ok (.return_, 1) := by decide +kernel
theorem dX9_four_0 : decode cX9_four 0 = .ok (.bipush 24, 2) := by decide +kernel
theorem dX9_four_2 : decode cX9_four 2 = .ok (.istore_n 2, 1) := by decide +kernel
theorem dX9_four_3 : decode cX9_four 3 = .ok (.iload_n 2, 1) := by decide +kernel
theorem dX9_four_4 : decode cX9_four 4 = .ok (.ifCond .lt 35, 3) := by decide +kernel
theorem dX9_four_7 : decode cX9_four 7 = .ok (.aload_n 0, 1) := by decide +kernel
theorem dX9_four_8 : decode cX9_four 8 = .ok (.getfield 34, 3) := by decide +kernel
theorem dX9_four_11 : decode cX9_four 11 = .ok (.aload_n 0, 1) := by decide +kernel
theorem dX9_four_12 : decode cX9_four 12 = .ok (.getfield 148, 3) := by decide +kernel
theorem dX9_four_15 : decode cX9_four 15 = .ok (.iload_n 1, 1) := by decide +kernel
theorem dX9_four_16 : decode cX9_four 16 = .ok (.iload_n 2, 1) := by decide +kernel
theorem dX9_four_17 : decode cX9_four 17 = .ok (.ishr, 1) := by decide +kernel
theorem dX9_four_18 : decode cX9_four 18 = .ok (.sipush 255, 3) := by decide +kernel
theorem dX9_four_21 : decode cX9_four 21 = .ok (.iand, 1) := by decide +kernel
theorem dX9_four_22 : decode cX9_four 22 = .ok (.iastore, 1) := by decide +kernel
theorem dX9_four_23 : decode cX9_four 23 = .ok (.aload_n 0, 1) := by decide +kernel
theorem dX9_four_24 : decode cX9_four 24 = .ok (.dup, 1) := by decide +kernel
theorem dX9_four_25 : decode cX9_four 25 = .ok (.getfield 148, 3) := by decide +kernel
theorem dX9_four_28 : decode cX9_four 28 = .ok (.iconst 1, 1) := by decide +kernel
theorem dX9_four_29 : decode cX9_four 29 = .ok (.iadd, 1) := by decide +kernel
theorem dX9_four_30 : decode cX9_four 30 = .ok (.putfield 148, 3) := by decide +kernel
theorem dX9_four_33 : decode cX9_four 33 = .ok (.iinc 2 (-8), 3) := by decide +kernel
theorem dX9_four_36 : decode cX9_four 36 = .ok (.goto (-33), 3) := by decide +kernel
theorem dX9_four_39 : decode cX9_four 39 = .ok (.return_, 1) := by decide +kernel
theorem dX9_feed_0 : decode cX9_feed 0 = .ok (.aload_n 0, 1) := by decide +kernel
theorem dX9_feed_1 : decode cX9_feed 1 = .ok (.iconst 0, 1) := by decide +kernel
theorem dX9_feed_2 : decode cX9_feed 2 = .ok (.putfield 133, 3) := by decide +kernel
theorem dX9_feed_5 : decode cX9_feed 5 = .ok (.aload_n 0, 1) := by decide +kernel
theorem dX9_feed_6 : decode cX9_feed 6 = .ok (.getfield 148, 3) := by decide +kernel
theorem dX9_feed_9 : decode cX9_feed 9 = .ok (.bipush 20, 2) := by decide +kernel
theorem dX9_feed_11 : decode cX9_feed 11 = .ok (.iadd, 1) := by decide +kernel
theorem dX9_feed_12 : decode cX9_feed 12 = .ok (.sipush 900, 3) := by decide +kernel
theorem dX9_feed_15 : decode cX9_feed 15 = .ok (.if_icmp .le 5, 3) := by decide +kernel
theorem dX9_feed_18 : decode cX9_feed 18 = .ok (.iconst (-1), 1) := by decide +kernel
theorem dX9_feed_19 : decode cX9_feed 19 = .ok (.ireturn, 1) := by decide +kernel
theorem dX9_feed_20 : decode cX9_feed 20 = .ok (.aload_n 0, 1) := by decide +kernel
theorem dX9_feed_21 : decode cX9_feed 21 = .ok (.iload_n 1, 1) := by decide +kernel
theorem dX9_feed_22 : decode cX9_feed 22 = .ok (.invokevirtual 151, 3) := by decide +kernel
theorem dX9_feed_25 : decode cX9_feed 25 = .ok (.aload_n 0, 1) := by decide +kernel
theorem dX9_feed_26 : decode cX9_feed 26 = .ok (.iload_n 2, 1) := by decide +kernel
theorem dX9_feed_27 : decode cX9_feed 27 = .ok (.invokevirtual 151, 3) := by decide +kernel
theorem dX9_feed_30 : decode cX9_feed 30 = .ok (.aload_n 0, 1) := by decide +kernel
theorem dX9_feed_31 : decode cX9_feed 31 = .ok (.iload_n 3, 1) := by decide +kernel
theorem dX9_feed_32 : decode cX9_feed 32 = .ok (.invokevirtual 151, 3) := by decide +kernel
theorem dX9_feed_35 : decode cX9_feed 35 = .ok (.aload_n 0, 1) := by decide +kernel
theorem dX9_feed_36 : decode cX9_feed 36 = .ok (.iload 4, 2) := by decide +kernel
theorem dX9_feed_38 : decode cX9_feed 38 = .ok (.invokevirtual 151, 3) := by decide +kernel
theorem dX9_feed_41 : decode cX9_feed 41 = .ok (.aload_n 0, 1) := by decide +kernel
theorem dX9_feed_42 : decode cX9_feed 42 = .ok (.iload 5, 2) := by decide +kernel
theorem dX9_feed_44 : decode cX9_feed 44 = .ok (.invokevirtual 151, 3) := by decide +kernel
theorem dX9_feed_47 : decode cX9_feed 47 = .ok (.aload_n 0, 1) := by decide +kernel
theorem dX9_feed_48 : decode cX9_feed 48 = .ok (.getfield 148, 3) := by decide +kernel
theorem dX9_feed_51 : decode cX9_feed 51 = .ok (.ireturn, 1) := by decide +kernel
theorem dX9_end_0 : decode cX9_end 0 = .ok (.aload_n 0, 1) := by decide +kernel
theorem dX9_end_1 : decode cX9_end 1 = .ok (.iconst 0, 1) := by decide +kernel
theorem dX9_end_2 : decode cX9_end 2 = .ok (.putfield 133, 3) := by decide +kernel
theorem dX9_end_5 : decode cX9_end 5 = .ok (.iload_n 1, 1) := by decide +kernel
theorem dX9_end_6 : decode cX9_end 6 = .ok (.iconst 0, 1) := by decide +kernel
theorem dX9_end_7 : decode cX9_end 7 = .ok (.aload_n 0, 1) := by decide +kernel
theorem dX9_end_8 : decode cX9_end 8 = .ok (.getfield 148, 3) := by decide +kernel
theorem dX9_end_11 : decode cX9_end 11 = .ok (.invokestatic 136, 3) := by decide +kernel
theorem dX9_end_14 : decode cX9_end 14 = .ok (.ifCond .ne 5, 3) := by decide +kernel
theorem dX9_end_17 : decode cX9_end 17 = .ok (.iconst (-1), 1) := by decide +kernel
theorem dX9_end_18 : decode cX9_end 18 = .ok (.ireturn, 1) := by decide +kernel
theorem dX9_end_19 : decode cX9_end 19 = .ok (.aload_n 0, 1) := by decide +kernel
theorem dX9_end_20 : decode cX9_end 20 = .ok (.iload_n 1, 1) := by decide +kernel
theorem dX9_end_21 : decode cX9_end 21 = .ok (.putfield 148, 3) := by decide +kernel
theorem dX9_end_24 : decode cX9_end 24 = .ok (.iload_n 1, 1) := by decide +kernel
theorem dX9_end_25 : decode cX9_end 25 = .ok (.ireturn, 1) := by decide +kernel
theorem dX9_byteAt_0 : decode cX9_byteAt 0 = .ok (.iload_n 1, 1) := by decide +kernel
theorem dX9_byteAt_1 : decode cX9_byteAt 1 = .ok (.aload_n 0, 1) := by decide +kernel
theorem dX9_byteAt_2 : decode cX9_byteAt 2 = .ok (.getfield 155, 3) := by decide +kernel
theorem dX9_byteAt_5 : decode cX9_byteAt 5 = .ok (.if_icmp .ge 12, 3) := by decide +kernel
theorem dX9_byteAt_8 : decode cX9_byteAt 8 = .ok (.aload_n 0, 1) := by decide +kernel
theorem dX9_byteAt_9 : decode cX9_byteAt 9 = .ok (.getfield 34, 3) := by decide +kernel
theorem dX9_byteAt_12 : decode cX9_byteAt 12 = .ok (.iload_n 1, 1) := by decide +kernel
theorem dX9_byteAt_13 : decode cX9_byteAt 13 = .ok (.iaload, 1) := by decide +kernel
theorem dX9_byteAt_14 : decode cX9_byteAt 14 = .ok (.goto 4, 3) := by decide +kernel
theorem dX9_byteAt_17 : decode cX9_byteAt 17 = .ok (.iconst (-1), 1) := by decide +kernel
theorem dX9_byteAt_18 : decode cX9_byteAt 18 = .ok (.ireturn, 1) := by decide +kernel
theorem dX9_isSmall_0 : decode cX9_isSmall 0 = .ok (.iload_n 0, 1) := by decide +kernel
theorem dX9_isSmall_1 : decode cX9_isSmall 1 = .ok (.bipush 97, 2) := by decide +kernel
theorem dX9_isSmall_3 : decode cX9_isSmall 3 = .ok (.if_icmp .lt 13, 3) := by decide +kernel
theorem dX9_isSmall_6 : decode cX9_isSmall 6 = .ok (.iload_n 0, 1) := by decide +kernel
theorem dX9_isSmall_7 : decode cX9_isSmall 7 = .ok (.bipush 122, 2) := by decide +kernel
theorem dX9_isSmall_9 : decode cX9_isSmall 9 = .ok (.if_icmp .gt 7, 3) := by decide +kernel
theorem dX9_isSmall_12 : decode cX9_isSmall 12 = .ok (.iconst 1, 1) := by decide +kernel
theorem dX9_isSmall_13 : decode cX9_isSmall 13 = .ok (.goto 4, 3) := by decide +kernel
theorem dX9_isSmall_16 : decode cX9_isSmall 16 = .ok (.iconst 0, 1) := by decide +kernel
theorem dX9_isSmall_17 : decode cX9_isSmall 17 = .ok (.ireturn, 1) := by decide +kernel
theorem dX9_isDigit_0 : decode cX9_isDigit 0 = .ok (.iload_n 0, 1) := by decide +kernel
theorem dX9_isDigit_1 : decode cX9_isDigit 1 = .ok (.bipush 48, 2) := by decide +kernel
theorem dX9_isDigit_3 : decode cX9_isDigit 3 = .ok (.if_icmp .lt 13, 3) := by decide +kernel
theorem dX9_isDigit_6 : decode cX9_isDigit 6 = .ok (.iload_n 0, 1) := by decide +kernel
theorem dX9_isDigit_7 : decode cX9_isDigit 7 = .ok (.bipush 57, 2) := by decide +kernel
theorem dX9_isDigit_9 : decode cX9_isDigit 9 = .ok (.if_icmp .gt 7, 3) := by decide +kernel
theorem dX9_isDigit_12 : decode cX9_isDigit 12 = .ok (.iconst 1, 1) := by decide +kernel
theorem dX9_isDigit_13 : decode cX9_isDigit 13 = .ok (.goto 4, 3) := by decide +kernel
theorem dX9_isDigit_16 : decode cX9_isDigit 16 = .ok (.iconst 0, 1) := by decide +kernel
theorem dX9_isDigit_17 : decode cX9_isDigit 17 = .ok (.ireturn, 1) := by decide +kernel
theorem dX9_next_0 : decode cX9_next 0 = .ok (.aload_n 0, 1) := by decide +kernel
theorem dX9_next_1 : decode cX9_next 1 = .ok (.aload_n 0, 1) := by decide +kernel
theorem dX9_next_2 : decode cX9_next 2 = .ok (.getfield 158, 3) := by decide +kernel
theorem dX9_next_5 : decode cX9_next 5 = .ok (.invokevirtual 161, 3) := by decide +kernel
theorem dX9_next_8 : decode cX9_next 8 = .ok (.bipush 32, 2) := by decide +kernel
theorem dX9_next_10 : decode cX9_next 10 = .ok (.if_icmp .eq 16, 3) := by decide +kernel
theorem dX9_next_13 : decode cX9_next 13 = .ok (.aload_n 0, 1) := by decide +kernel
theorem dX9_next_14 : decode cX9_next 14 = .ok (.aload_n 0, 1) := by decide +kernel
theorem dX9_next_15 : decode cX9_next 15 = .ok (.getfield 158, 3) := by decide +kernel
theorem dX9_next_18 : decode cX9_next 18 = .ok (.invokevirtual 161, 3) := by decide +kernel
theorem dX9_next_21 : decode cX9_next 21 = .ok (.bipush 10, 2) := by decide +kernel
theorem dX9_next_23 : decode cX9_next 23 = .ok (.if_icmp .ne 16, 3) := by decide +kernel
theorem dX9_next_26 : decode cX9_next 26 = .ok (.aload_n 0, 1) := by decide +kernel
theorem dX9_next_27 : decode cX9_next 27 = .ok (.dup, 1) := by decide +kernel
theorem dX9_next_28 : decode cX9_next 28 = .ok (.getfield 158, 3) := by decide +kernel
theorem dX9_next_31 : decode cX9_next 31 = .ok (.iconst 1, 1) := by decide +kernel
theorem dX9_next_32 : decode cX9_next 32 = .ok (.iadd, 1) := by decide +kernel
theorem dX9_next_33 : decode cX9_next 33 = .ok (.putfield 158, 3) := by decide +kernel
theorem dX9_next_36 : decode cX9_next 36 = .ok (.goto (-36), 3) := by decide +kernel
theorem dX9_next_39 : decode cX9_next 39 = .ok (.aload_n 0, 1) := by decide +kernel
theorem dX9_next_40 : decode cX9_next 40 = .ok (.aload_n 0, 1) := by decide +kernel
theorem dX9_next_41 : decode cX9_next 41 = .ok (.getfield 158, 3) := by decide +kernel
theorem dX9_next_44 : decode cX9_next 44 = .ok (.putfield 165, 3) := by decide +kernel
theorem dX9_next_47 : decode cX9_next 47 = .ok (.aload_n 0, 1) := by decide +kernel
theorem dX9_next_48 : decode cX9_next 48 = .ok (.aload_n 0, 1) := by decide +kernel
theorem dX9_next_49 : decode cX9_next 49 = .ok (.getfield 165, 3) := by decide +kernel
theorem dX9_next_52 : decode cX9_next 52 = .ok (.invokevirtual 161, 3) := by decide +kernel
theorem dX9_next_55 : decode cX9_next 55 = .ok (.istore_n 1, 1) := by decide +kernel
theorem dX9_next_56 : decode cX9_next 56 = .ok (.aload_n 0, 1) := by decide +kernel
theorem dX9_next_57 : decode cX9_next 57 = .ok (.iconst 0, 1) := by decide +kernel
theorem dX9_next_58 : decode cX9_next 58 = .ok (.putfield 168, 3) := by decide +kernel
theorem dX9_next_61 : decode cX9_next 61 = .ok (.iload_n 1, 1) := by decide +kernel
theorem dX9_next_62 : decode cX9_next 62 = .ok (.iconst (-1), 1) := by decide +kernel
theorem dX9_next_63 : decode cX9_next 63 = .ok (.if_icmp .ne 11, 3) := by decide +kernel
theorem dX9_next_66 : decode cX9_next 66 = .ok (.aload_n 0, 1) := by decide +kernel
theorem dX9_next_67 : decode cX9_next 67 = .ok (.iconst 0, 1) := by decide +kernel
theorem dX9_next_68 : decode cX9_next 68 = .ok (.putfield 171, 3) := by decide +kernel
theorem dX9_next_71 : decode cX9_next 71 = .ok (.goto 231, 3) := by decide +kernel
theorem dX9_next_74 : decode cX9_next 74 = .ok (.iload_n 1, 1) := by decide +kernel
theorem dX9_next_75 : decode cX9_next 75 = .ok (.invokestatic 174, 3) := by decide +kernel
theorem dX9_next_78 : decode cX9_next 78 = .ok (.ifCond .eq 97, 3) := by decide +kernel
theorem dX9_next_81 : decode cX9_next 81 = .ok (.aload_n 0, 1) := by decide +kernel
theorem dX9_next_82 : decode cX9_next 82 = .ok (.aload_n 0, 1) := by decide +kernel
theorem dX9_next_83 : decode cX9_next 83 = .ok (.getfield 158, 3) := by decide +kernel
theorem dX9_next_86 : decode cX9_next 86 = .ok (.invokevirtual 161, 3) := by decide +kernel
theorem dX9_next_89 : decode cX9_next 89 = .ok (.invokestatic 174, 3) := by decide +kernel
theorem dX9_next_92 : decode cX9_next 92 = .ok (.ifCond .eq 57, 3) := by decide +kernel
theorem dX9_next_95 : decode cX9_next 95 = .ok (.aload_n 0, 1) := by decide +kernel
theorem dX9_next_96 : decode cX9_next 96 = .ok (.aload_n 0, 1) := by decide +kernel
theorem dX9_next_97 : decode cX9_next 97 = .ok (.getfield 158, 3) := by decide +kernel
theorem dX9_next_100 : decode cX9_next 100 = .ok (.aload_n 0, 1) := by decide +kernel
theorem dX9_next_101 : decode cX9_next 101 = .ok (.getfield 165, 3) := by decide +kernel
theorem dX9_next_104 : decode cX9_next 104 = .ok (.isub, 1) := by decide +kernel
theorem dX9_next_105 : decode cX9_next 105 = .ok (.bipush 6, 2) := by decide +kernel
theorem dX9_next_107 : decode cX9_next 107 = .ok (.if_icmp .ge 25, 3) := by decide +kernel
theorem dX9_next_110 : decode cX9_next 110 = .ok (.aload_n 0, 1) := by decide +kernel
theorem dX9_next_111 : decode cX9_next 111 = .ok (.getfield 168, 3) := by decide +kernel
theorem dX9_next_114 : decode cX9_next 114 = .ok (.bipush 32, 2) := by decide +kernel
theorem dX9_next_116 : decode cX9_next 116 = .ok (.imul, 1) := by decide +kernel
theorem dX9_next_117 : decode cX9_next 117 = .ok (.aload_n 0, 1) := by decide +kernel
theorem dX9_next_118 : decode cX9_next 118 = .ok (.aload_n 0, 1) := by decide +kernel
theorem dX9_next_119 : decode cX9_next 119 = .ok (.getfield 158, 3) := by decide +kernel
theorem dX9_next_122 : decode cX9_next 122 = .ok (.invokevirtual 161, 3) := by decide +kernel
theorem dX9_next_125 : decode cX9_next 125 = .ok (.iadd, 1) := by decide +kernel
theorem dX9_next_126 : decode cX9_next 126 = .ok (.bipush 96, 2) := by decide +kernel
theorem dX9_next_128 : decode cX9_next 128 = .ok (.isub, 1) := by decide +kernel
theorem dX9_next_129 : decode cX9_next 129 = .ok (.goto 4, 3) := by decide +kernel
theorem dX9_next_132 : decode cX9_next 132 = .ok (.iconst (-1), 1) := by decide +kernel
theorem dX9_next_133 : decode cX9_next 133 = .ok (.putfield 168, 3) := by decide +kernel
theorem dX9_next_136 : decode cX9_next 136 = .ok (.aload_n 0, 1) := by decide +kernel
theorem dX9_next_137 : decode cX9_next 137 = .ok (.dup, 1) := by decide +kernel
theorem dX9_next_138 : decode cX9_next 138 = .ok (.getfield 158, 3) := by decide +kernel
theorem dX9_next_141 : decode cX9_next 141 = .ok (.iconst 1, 1) := by decide +kernel
theorem dX9_next_142 : decode cX9_next 142 = .ok (.iadd, 1) := by decide +kernel
theorem dX9_next_143 : decode cX9_next 143 = .ok (.putfield 158, 3) := by decide +kernel
theorem dX9_next_146 : decode cX9_next 146 = .ok (.goto (-65), 3) := by decide +kernel
theorem dX9_next_149 : decode cX9_next 149 = .ok (.aload_n 0, 1) := by decide +kernel
theorem dX9_next_150 : decode cX9_next 150 = .ok (.aload_n 0, 1) := by decide +kernel
theorem dX9_next_151 : decode cX9_next 151 = .ok (.getfield 158, 3) := by decide +kernel
theorem dX9_next_154 : decode cX9_next 154 = .ok (.aload_n 0, 1) := by decide +kernel
theorem dX9_next_155 : decode cX9_next 155 = .ok (.getfield 165, 3) := by decide +kernel
theorem dX9_next_158 : decode cX9_next 158 = .ok (.isub, 1) := by decide +kernel
theorem dX9_next_159 : decode cX9_next 159 = .ok (.bipush 6, 2) := by decide +kernel
theorem dX9_next_161 : decode cX9_next 161 = .ok (.if_icmp .le 7, 3) := by decide +kernel
theorem dX9_next_164 : decode cX9_next 164 = .ok (.iconst 4, 1) := by decide +kernel
theorem dX9_next_165 : decode cX9_next 165 = .ok (.goto 4, 3) := by decide +kernel
theorem dX9_next_168 : decode cX9_next 168 = .ok (.iconst 1, 1) := by decide +kernel
theorem dX9_next_169 : decode cX9_next 169 = .ok (.putfield 171, 3) := by decide +kernel
theorem dX9_next_172 : decode cX9_next 172 = .ok (.goto 130, 3) := by decide +kernel
theorem dX9_next_175 : decode cX9_next 175 = .ok (.iload_n 1, 1) := by decide +kernel
theorem dX9_next_176 : decode cX9_next 176 = .ok (.invokestatic 178, 3) := by decide +kernel
theorem dX9_next_179 : decode cX9_next 179 = .ok (.ifCond .eq 98, 3) := by decide +kernel
theorem dX9_next_182 : decode cX9_next 182 = .ok (.aload_n 0, 1) := by decide +kernel
theorem dX9_next_183 : decode cX9_next 183 = .ok (.aload_n 0, 1) := by decide +kernel
theorem dX9_next_184 : decode cX9_next 184 = .ok (.getfield 158, 3) := by decide +kernel
theorem dX9_next_187 : decode cX9_next 187 = .ok (.invokevirtual 161, 3) := by decide +kernel
theorem dX9_next_190 : decode cX9_next 190 = .ok (.invokestatic 178, 3) := by decide +kernel
theorem dX9_next_193 : decode cX9_next 193 = .ok (.ifCond .eq 45, 3) := by decide +kernel
theorem dX9_next_196 : decode cX9_next 196 = .ok (.aload_n 0, 1) := by decide +kernel
theorem dX9_next_197 : decode cX9_next 197 = .ok (.sipush 10000, 3) := by decide +kernel
theorem dX9_next_200 : decode cX9_next 200 = .ok (.aload_n 0, 1) := by decide +kernel
theorem dX9_next_201 : decode cX9_next 201 = .ok (.getfield 168, 3) := by decide +kernel
theorem dX9_next_204 : decode cX9_next 204 = .ok (.bipush 10, 2) := by decide +kernel
theorem dX9_next_206 : decode cX9_next 206 = .ok (.imul, 1) := by decide +kernel
theorem dX9_next_207 : decode cX9_next 207 = .ok (.aload_n 0, 1) := by decide +kernel
theorem dX9_next_208 : decode cX9_next 208 = .ok (.aload_n 0, 1) := by decide +kernel
theorem dX9_next_209 : decode cX9_next 209 = .ok (.getfield 158, 3) := by decide +kernel
theorem dX9_next_212 : decode cX9_next 212 = .ok (.invokevirtual 161, 3) := by decide +kernel
theorem dX9_next_215 : decode cX9_next 215 = .ok (.iadd, 1) := by decide +kernel
theorem dX9_next_216 : decode cX9_next 216 = .ok (.bipush 48, 2) := by decide +kernel
theorem dX9_next_218 : decode cX9_next 218 = .ok (.isub, 1) := by decide +kernel
theorem dX9_next_219 : decode cX9_next 219 = .ok (.invokestatic 181, 3) := by decide +kernel
theorem dX9_next_222 : decode cX9_next 222 = .ok (.putfield 168, 3) := by decide +kernel
theorem dX9_next_225 : decode cX9_next 225 = .ok (.aload_n 0, 1) := by decide +kernel
theorem dX9_next_226 : decode cX9_next 226 = .ok (.dup, 1) := by decide +kernel
theorem dX9_next_227 : decode cX9_next 227 = .ok (.getfield 158, 3) := by decide +kernel
theorem dX9_next_230 : decode cX9_next 230 = .ok (.iconst 1, 1) := by decide +kernel
theorem dX9_next_231 : decode cX9_next 231 = .ok (.iadd, 1) := by decide +kernel
theorem dX9_next_232 : decode cX9_next 232 = .ok (.putfield 158, 3) := by decide +kernel
theorem dX9_next_235 : decode cX9_next 235 = .ok (.goto (-53), 3) := by decide +kernel
theorem dX9_next_238 : decode cX9_next 238 = .ok (.aload_n 0, 1) := by decide +kernel
theorem dX9_next_239 : decode cX9_next 239 = .ok (.aload_n 0, 1) := by decide +kernel
theorem dX9_next_240 : decode cX9_next 240 = .ok (.getfield 158, 3) := by decide +kernel
theorem dX9_next_243 : decode cX9_next 243 = .ok (.aload_n 0, 1) := by decide +kernel
theorem dX9_next_244 : decode cX9_next 244 = .ok (.getfield 165, 3) := by decide +kernel
theorem dX9_next_247 : decode cX9_next 247 = .ok (.isub, 1) := by decide +kernel
theorem dX9_next_248 : decode cX9_next 248 = .ok (.iconst 3, 1) := by decide +kernel
theorem dX9_next_249 : decode cX9_next 249 = .ok (.if_icmp .gt 17, 3) := by decide +kernel
theorem dX9_next_252 : decode cX9_next 252 = .ok (.aload_n 0, 1) := by decide +kernel
theorem dX9_next_253 : decode cX9_next 253 = .ok (.aload_n 0, 1) := by decide +kernel
theorem dX9_next_254 : decode cX9_next 254 = .ok (.getfield 158, 3) := by decide +kernel
theorem dX9_next_257 : decode cX9_next 257 = .ok (.invokevirtual 161, 3) := by decide +kernel
theorem dX9_next_260 : decode cX9_next 260 = .ok (.invokestatic 174, 3) := by decide +kernel
theorem dX9_next_263 : decode cX9_next 263 = .ok (.ifCond .eq 7, 3) := by decide +kernel
theorem dX9_next_266 : decode cX9_next 266 = .ok (.iconst 4, 1) := by decide +kernel
theorem dX9_next_267 : decode cX9_next 267 = .ok (.goto 4, 3) := by decide +kernel
theorem dX9_next_270 : decode cX9_next 270 = .ok (.iconst 2, 1) := by decide +kernel
theorem dX9_next_271 : decode cX9_next 271 = .ok (.putfield 171, 3) := by decide +kernel
theorem dX9_next_274 : decode cX9_next 274 = .ok (.goto 28, 3) := by decide +kernel
theorem dX9_next_277 : decode cX9_next 277 = .ok (.aload_n 0, 1) := by decide +kernel
theorem dX9_next_278 : decode cX9_next 278 = .ok (.dup, 1) := by decide +kernel
theorem dX9_next_279 : decode cX9_next 279 = .ok (.getfield 158, 3) := by decide +kernel
theorem dX9_next_282 : decode cX9_next 282 = .ok (.iconst 1, 1) := by decide +kernel
theorem dX9_next_283 : decode cX9_next 283 = .ok (.iadd, 1) := by decide +kernel
theorem dX9_next_284 : decode cX9_next 284 = .ok (.putfield 158, 3) := by decide +kernel
theorem dX9_next_287 : decode cX9_next 287 = .ok (.aload_n 0, 1) := by decide +kernel
theorem dX9_next_288 : decode cX9_next 288 = .ok (.iload_n 1, 1) := by decide +kernel
theorem dX9_next_289 : decode cX9_next 289 = .ok (.bipush 59, 2) := by decide +kernel
theorem dX9_next_291 : decode cX9_next 291 = .ok (.if_icmp .ne 7, 3) := by decide +kernel
theorem dX9_next_294 : decode cX9_next 294 = .ok (.iconst 3, 1) := by decide +kernel
theorem dX9_next_295 : decode cX9_next 295 = .ok (.goto 4, 3) := by decide +kernel
theorem dX9_next_298 : decode cX9_next 298 = .ok (.iconst 4, 1) := by decide +kernel
theorem dX9_next_299 : decode cX9_next 299 = .ok (.putfield 171, 3) := by decide +kernel
theorem dX9_next_302 : decode cX9_next 302 = .ok (.return_, 1) := by decide +kernel
theorem dX9_isGood_0 : decode cX9_isGood 0 = .ok (.aload_n 0, 1) := by decide +kernel
theorem dX9_isGood_1 : decode cX9_isGood 1 = .ok (.getfield 185, 3) := by decide +kernel
theorem dX9_isGood_4 : decode cX9_isGood 4 = .ok (.ifCond .ne 7, 3) := by decide +kernel
theorem dX9_isGood_7 : decode cX9_isGood 7 = .ok (.iconst 1, 1) := by decide +kernel
theorem dX9_isGood_8 : decode cX9_isGood 8 = .ok (.goto 4, 3) := by decide +kernel
theorem dX9_isGood_11 : decode cX9_isGood 11 = .ok (.iconst 0, 1) := by decide +kernel
theorem dX9_isGood_12 : decode cX9_isGood 12 = .ok (.ireturn, 1) := by decide +kernel
theorem dX9_failsAt_0 : decode cX9_failsAt 0 = .ok (.aload_n 0, 1) := by decide +kernel
theorem dX9_failsAt_1 : decode cX9_failsAt 1 = .ok (.getfield 185, 3) := by decide +kernel
theorem dX9_failsAt_4 : decode cX9_failsAt 4 = .ok (.ifCond .ne 13, 3) := by decide +kernel
theorem dX9_failsAt_7 : decode cX9_failsAt 7 = .ok (.aload_n 0, 1) := by decide +kernel
theorem dX9_failsAt_8 : decode cX9_failsAt 8 = .ok (.iload_n 1, 1) := by decide +kernel
theorem dX9_failsAt_9 : decode cX9_failsAt 9 = .ok (.putfield 185, 3) := by decide +kernel
theorem dX9_failsAt_12 : decode cX9_failsAt 12 = .ok (.aload_n 0, 1) := by decide +kernel
theorem dX9_failsAt_13 : decode cX9_failsAt 13 = .ok (.iload_n 2, 1) := by decide +kernel
theorem dX9_failsAt_14 : decode cX9_failsAt 14 = .ok (.putfield 188, 3) := by decide +kernel
theorem dX9_failsAt_17 : decode cX9_failsAt 17 = .ok (.return_, 1) := by decide +kernel
theorem dX9_fails_0 : decode cX9_fails 0 = .ok (.aload_n 0, 1) := by decide +kernel
theorem dX9_fails_1 : decode cX9_fails 1 = .ok (.aload_n 0, 1) := by decide +kernel
theorem dX9_fails_2 : decode cX9_fails 2 = .ok (.getfield 171, 3) := by decide +kernel
theorem dX9_fails_5 : decode cX9_fails 5 = .ok (.iconst 4, 1) := by decide +kernel
theorem dX9_fails_6 : decode cX9_fails 6 = .ok (.if_icmp .ne 7, 3) := by decide +kernel
theorem dX9_fails_9 : decode cX9_fails 9 = .ok (.iconst 1, 1) := by decide +kernel
theorem dX9_fails_10 : decode cX9_fails 10 = .ok (.goto 4, 3) := by decide +kernel
theorem dX9_fails_13 : decode cX9_fails 13 = .ok (.iload_n 1, 1) := by decide +kernel
theorem dX9_fails_14 : decode cX9_fails 14 = .ok (.aload_n 0, 1) := by decide +kernel
theorem dX9_fails_15 : decode cX9_fails 15 = .ok (.getfield 165, 3) := by decide +kernel
theorem dX9_fails_18 : decode cX9_fails 18 = .ok (.invokevirtual 191, 3) := by decide +kernel
theorem dX9_fails_21 : decode cX9_fails 21 = .ok (.return_, 1) := by decide +kernel
theorem dX9_isWord_0 : decode cX9_isWord 0 = .ok (.aload_n 0, 1) := by decide +kernel
theorem dX9_isWord_1 : decode cX9_isWord 1 = .ok (.getfield 171, 3) := by decide +kernel
theorem dX9_isWord_4 : decode cX9_isWord 4 = .ok (.iconst 1, 1) := by decide +kernel
theorem dX9_isWord_5 : decode cX9_isWord 5 = .ok (.if_icmp .ne 15, 3) := by decide +kernel
theorem dX9_isWord_8 : decode cX9_isWord 8 = .ok (.aload_n 0, 1) := by decide +kernel
theorem dX9_isWord_9 : decode cX9_isWord 9 = .ok (.getfield 168, 3) := by decide +kernel
theorem dX9_isWord_12 : decode cX9_isWord 12 = .ok (.iload_n 1, 1) := by decide +kernel
theorem dX9_isWord_13 : decode cX9_isWord 13 = .ok (.if_icmp .ne 7, 3) := by decide +kernel
theorem dX9_isWord_16 : decode cX9_isWord 16 = .ok (.iconst 1, 1) := by decide +kernel
theorem dX9_isWord_17 : decode cX9_isWord 17 = .ok (.goto 4, 3) := by decide +kernel
theorem dX9_isWord_20 : decode cX9_isWord 20 = .ok (.iconst 0, 1) := by decide +kernel
theorem dX9_isWord_21 : decode cX9_isWord 21 = .ok (.ireturn, 1) := by decide +kernel
theorem dX9_goesOn_0 : decode cX9_goesOn 0 = .ok (.aload_n 0, 1) := by decide +kernel
theorem dX9_goesOn_1 : decode cX9_goesOn 1 = .ok (.invokevirtual 195, 3) := by decide +kernel
theorem dX9_goesOn_4 : decode cX9_goesOn 4 = .ok (.ifCond .eq 7, 3) := by decide +kernel
theorem dX9_goesOn_7 : decode cX9_goesOn 7 = .ok (.aload_n 0, 1) := by decide +kernel
theorem dX9_goesOn_8 : decode cX9_goesOn 8 = .ok (.invokevirtual 199, 3) := by decide +kernel
theorem dX9_goesOn_11 : decode cX9_goesOn 11 = .ok (.return_, 1) := by decide +kernel
theorem dX9_mustBeName_0 : decode cX9_mustBeName 0 = .ok (.aload_n 0, 1) := by decide +kernel
theorem dX9_mustBeName_1 : decode cX9_mustBeName 1 = .ok (.getfield 171, 3) := by decide +kernel
theorem dX9_mustBeName_4 : decode cX9_mustBeName 4 = .ok (.iconst 1, 1) := by decide +kernel
theorem dX9_mustBeName_5 : decode cX9_mustBeName 5 = .ok (.if_icmp .ne 39, 3) := by decide +kernel
theorem dX9_mustBeName_8 : decode cX9_mustBeName 8 = .ok (.aload_n 0, 1) := by decide +kernel
theorem dX9_mustBeName_9 : decode cX9_mustBeName 9 = .ok (.ldc 202, 2) := by decide +kernel
theorem dX9_mustBeName_11 : decode cX9_mustBeName 11 = .ok (.invokevirtual 203, 3) := by decide +kernel
theorem dX9_mustBeName_14 : decode cX9_mustBeName 14 = .ok (.ifCond .ne 30, 3) := by decide +kernel
theorem dX9_mustBeName_17 : decode cX9_mustBeName 17 = .ok (.aload_n 0, 1) := by decide +kernel
theorem dX9_mustBeName_18 : decode cX9_mustBeName 18 = .ok (.ldc 206, 2) := by decide +kernel
theorem dX9_mustBeName_20 : decode cX9_mustBeName 20 = .ok (.invokevirtual 203, 3) := by decide +kernel
theorem dX9_mustBeName_23 : decode cX9_mustBeName 23 = .ok (.ifCond .ne 21, 3) := by decide +kernel
theorem dX9_mustBeName_26 : decode cX9_mustBeName 26 = .ok (.aload_n 0, 1) := by decide +kernel
theorem dX9_mustBeName_27 : decode cX9_mustBeName 27 = .ok (.ldc 207, 2) := by decide +kernel
theorem dX9_mustBeName_29 : decode cX9_mustBeName 29 = .ok (.invokevirtual 203, 3) := by decide +kernel
theorem dX9_mustBeName_32 : decode cX9_mustBeName 32 = .ok (.ifCond .ne 12, 3) := by decide +kernel
theorem dX9_mustBeName_35 : decode cX9_mustBeName 35 = .ok (.aload_n 0, 1) := by decide +kernel
theorem dX9_mustBeName_36 : decode cX9_mustBeName 36 = .ok (.ldc 208, 2) := by decide +kernel
theorem dX9_mustBeName_38 : decode cX9_mustBeName 38 = .ok (.invokevirtual 203, 3) := by decide +kernel
theorem dX9_mustBeName_41 : decode cX9_mustBeName 41 = .ok (.ifCond .eq 8, 3) := by decide +kernel
theorem dX9_mustBeName_44 : decode cX9_mustBeName 44 = .ok (.aload_n 0, 1) := by decide +kernel
theorem dX9_mustBeName_45 : decode cX9_mustBeName 45 = .ok (.iconst 2, 1) := by decide +kernel
theorem dX9_mustBeName_46 : decode cX9_mustBeName 46 = .ok (.invokevirtual 209, 3) := by decide +kernel
theorem dX9_mustBeName_49 : decode cX9_mustBeName 49 = .ok (.return_, 1) := by decide +kernel
theorem dX9_placeCalled_0 : decode cX9_placeCalled 0 = .ok (.iconst 0, 1) := by decide +kernel
theorem dX9_placeCalled_1 : decode cX9_placeCalled 1 = .ok (.istore_n 1, 1) := by decide +kernel
theorem dX9_placeCalled_2 : decode cX9_placeCalled 2 = .ok (.iload_n 1, 1) := by decide +kernel
theorem dX9_placeCalled_3 : decode cX9_placeCalled 3 = .ok (.aload_n 0, 1) := by decide +kernel
theorem dX9_placeCalled_4 : decode cX9_placeCalled 4 = .ok (.getfield 212, 3) := by decide +kernel
theorem dX9_placeCalled_7 : decode cX9_placeCalled 7 = .ok (.if_icmp .ge 24, 3) := by decide +kernel
theorem dX9_placeCalled_10 : decode cX9_placeCalled 10 = .ok (.aload_n 0, 1) := by decide +kernel
theorem dX9_placeCalled_11 : decode cX9_placeCalled 11 = .ok (.getfield 25, 3) := by decide +kernel
theorem dX9_placeCalled_14 : decode cX9_placeCalled 14 = .ok (.iload_n 1, 1) := by decide +kernel
theorem dX9_placeCalled_15 : decode cX9_placeCalled 15 = .ok (.iaload, 1) := by decide +kernel
theorem dX9_placeCalled_16 : decode cX9_placeCalled 16 = .ok (.aload_n 0, 1) := by decide +kernel
theorem dX9_placeCalled_17 : decode cX9_placeCalled 17 = .ok (.getfield 168, 3) := by decide +kernel
theorem dX9_placeCalled_20 : decode cX9_placeCalled 20 = .ok (.if_icmp .ne 5, 3) := by decide +kernel
theorem dX9_placeCalled_23 : decode cX9_placeCalled 23 = .ok (.iload_n 1, 1) := by decide +kernel
theorem dX9_placeCalled_24 : decode cX9_placeCalled 24 = .ok (.ireturn, 1) := by decide +kernel
theorem dX9_placeCalled_25 : decode cX9_placeCalled 25 = .ok (.iinc 1 1, 3) := by decide +kernel
theorem dX9_placeCalled_28 : decode cX9_placeCalled 28 = .ok (.goto (-26), 3) := by decide +kernel
theorem dX9_placeCalled_31 : decode cX9_placeCalled 31 = .ok (.iconst (-1), 1) := by decide +kernel
theorem dX9_placeCalled_32 : decode cX9_placeCalled 32 = .ok (.ireturn, 1) := by decide +kernel
theorem dX9_freshName_0 : decode cX9_freshName 0 = .ok (.aload_n 0, 1) := by decide +kernel
theorem dX9_freshName_1 : decode cX9_freshName 1 = .ok (.invokevirtual 215, 3) := by decide +kernel
theorem dX9_freshName_4 : decode cX9_freshName 4 = .ok (.aload_n 0, 1) := by decide +kernel
theorem dX9_freshName_5 : decode cX9_freshName 5 = .ok (.invokevirtual 218, 3) := by decide +kernel
theorem dX9_freshName_8 : decode cX9_freshName 8 = .ok (.ifCond .lt 7, 3) := by decide +kernel
theorem dX9_freshName_11 : decode cX9_freshName 11 = .ok (.iconst 1, 1) := by decide +kernel
theorem dX9_freshName_12 : decode cX9_freshName 12 = .ok (.goto 4, 3) := by decide +kernel
theorem dX9_freshName_15 : decode cX9_freshName 15 = .ok (.iconst 0, 1) := by decide +kernel
theorem dX9_freshName_16 : decode cX9_freshName 16 = .ok (.istore_n 1, 1) := by decide +kernel
theorem dX9_freshName_17 : decode cX9_freshName 17 = .ok (.iconst 0, 1) := by decide +kernel
theorem dX9_freshName_18 : decode cX9_freshName 18 = .ok (.istore_n 2, 1) := by decide +kernel
theorem dX9_freshName_19 : decode cX9_freshName 19 = .ok (.iload_n 2, 1) := by decide +kernel
theorem dX9_freshName_20 : decode cX9_freshName 20 = .ok (.aload_n 0, 1) := by decide +kernel
theorem dX9_freshName_21 : decode cX9_freshName 21 = .ok (.getfield 222, 3) := by decide +kernel
theorem dX9_freshName_24 : decode cX9_freshName 24 = .ok (.if_icmp .ge 30, 3) := by decide +kernel
theorem dX9_freshName_27 : decode cX9_freshName 27 = .ok (.iload_n 1, 1) := by decide +kernel
theorem dX9_freshName_28 : decode cX9_freshName 28 = .ok (.aload_n 0, 1) := by decide +kernel
theorem dX9_freshName_29 : decode cX9_freshName 29 = .ok (.getfield 28, 3) := by decide +kernel
theorem dX9_freshName_32 : decode cX9_freshName 32 = .ok (.iload_n 2, 1) := by decide +kernel
theorem dX9_freshName_33 : decode cX9_freshName 33 = .ok (.iaload, 1) := by decide +kernel
theorem dX9_freshName_34 : decode cX9_freshName 34 = .ok (.aload_n 0, 1) := by decide +kernel
theorem dX9_freshName_35 : decode cX9_freshName 35 = .ok (.getfield 168, 3) := by decide +kernel
theorem dX9_freshName_38 : decode cX9_freshName 38 = .ok (.if_icmp .ne 7, 3) := by decide +kernel
theorem dX9_freshName_41 : decode cX9_freshName 41 = .ok (.iconst 1, 1) := by decide +kernel
theorem dX9_freshName_42 : decode cX9_freshName 42 = .ok (.goto 4, 3) := by decide +kernel
theorem dX9_freshName_45 : decode cX9_freshName 45 = .ok (.iconst 0, 1) := by decide +kernel
theorem dX9_freshName_46 : decode cX9_freshName 46 = .ok (.ior, 1) := by decide +kernel
theorem dX9_freshName_47 : decode cX9_freshName 47 = .ok (.istore_n 1, 1) := by decide +kernel
theorem dX9_freshName_48 : decode cX9_freshName 48 = .ok (.iinc 2 1, 3) := by decide +kernel
theorem dX9_freshName_51 : decode cX9_freshName 51 = .ok (.goto (-32), 3) := by decide +kernel
theorem dX9_freshName_54 : decode cX9_freshName 54 = .ok (.aload_n 0, 1) := by decide +kernel
theorem dX9_freshName_55 : decode cX9_freshName 55 = .ok (.invokevirtual 195, 3) := by decide +kernel
theorem dX9_freshName_58 : decode cX9_freshName 58 = .ok (.ifCond .eq 12, 3) := by decide +kernel
theorem dX9_freshName_61 : decode cX9_freshName 61 = .ok (.iload_n 1, 1) := by decide +kernel
theorem dX9_freshName_62 : decode cX9_freshName 62 = .ok (.ifCond .eq 8, 3) := by decide +kernel
theorem dX9_freshName_65 : decode cX9_freshName 65 = .ok (.aload_n 0, 1) := by decide +kernel
theorem dX9_freshName_66 : decode cX9_freshName 66 = .ok (.iconst 3, 1) := by decide +kernel
theorem dX9_freshName_67 : decode cX9_freshName 67 = .ok (.invokevirtual 209, 3) := by decide +kernel
theorem dX9_freshName_70 : decode cX9_freshName 70 = .ok (.aload_n 0, 1) := by decide +kernel
theorem dX9_freshName_71 : decode cX9_freshName 71 = .ok (.getfield 168, 3) := by decide +kernel
theorem dX9_freshName_74 : decode cX9_freshName 74 = .ok (.istore_n 2, 1) := by decide +kernel
theorem dX9_freshName_75 : decode cX9_freshName 75 = .ok (.aload_n 0, 1) := by decide +kernel
theorem dX9_freshName_76 : decode cX9_freshName 76 = .ok (.invokevirtual 225, 3) := by decide +kernel
theorem dX9_freshName_79 : decode cX9_freshName 79 = .ok (.iload_n 2, 1) := by decide +kernel
theorem dX9_freshName_80 : decode cX9_freshName 80 = .ok (.ireturn, 1) := by decide +kernel
theorem dX9_readPlace_0 : decode cX9_readPlace 0 = .ok (.aload_n 0, 1) := by decide +kernel
theorem dX9_readPlace_1 : decode cX9_readPlace 1 = .ok (.invokevirtual 199, 3) := by decide +kernel
theorem dX9_readPlace_4 : decode cX9_readPlace 4 = .ok (.aload_n 0, 1) := by decide +kernel
theorem dX9_readPlace_5 : decode cX9_readPlace 5 = .ok (.getfield 25, 3) := by decide +kernel
theorem dX9_readPlace_8 : decode cX9_readPlace 8 = .ok (.aload_n 0, 1) := by decide +kernel
theorem dX9_readPlace_9 : decode cX9_readPlace 9 = .ok (.getfield 212, 3) := by decide +kernel
theorem dX9_readPlace_12 : decode cX9_readPlace 12 = .ok (.aload_n 0, 1) := by decide +kernel
theorem dX9_readPlace_13 : decode cX9_readPlace 13 = .ok (.invokevirtual 228, 3) := by decide +kernel
theorem dX9_readPlace_16 : decode cX9_readPlace 16 = .ok (.iastore, 1) := by decide +kernel
theorem dX9_readPlace_17 : decode cX9_readPlace 17 = .ok (.iconst 0, 1) := by decide +kernel
theorem dX9_readPlace_18 : decode cX9_readPlace 18 = .ok (.istore_n 1, 1) := by decide +kernel
theorem dX9_readPlace_19 : decode cX9_readPlace 19 = .ok (.aload_n 0, 1) := by decide +kernel
theorem dX9_readPlace_20 : decode cX9_readPlace 20 = .ok (.invokevirtual 195, 3) := by decide +kernel
theorem dX9_readPlace_23 : decode cX9_readPlace 23 = .ok (.ifCond .eq 31, 3) := by decide +kernel
theorem dX9_readPlace_26 : decode cX9_readPlace 26 = .ok (.aload_n 0, 1) := by decide +kernel
theorem dX9_readPlace_27 : decode cX9_readPlace 27 = .ok (.getfield 171, 3) := by decide +kernel
theorem dX9_readPlace_30 : decode cX9_readPlace 30 = .ok (.iconst 2, 1) := by decide +kernel
theorem dX9_readPlace_31 : decode cX9_readPlace 31 = .ok (.if_icmp .ne 23, 3) := by decide +kernel
theorem dX9_readPlace_34 : decode cX9_readPlace 34 = .ok (.aload_n 0, 1) := by decide +kernel
theorem dX9_readPlace_35 : decode cX9_readPlace 35 = .ok (.getfield 168, 3) := by decide +kernel
theorem dX9_readPlace_38 : decode cX9_readPlace 38 = .ok (.istore_n 1, 1) := by decide +kernel
theorem dX9_readPlace_39 : decode cX9_readPlace 39 = .ok (.iload_n 1, 1) := by decide +kernel
theorem dX9_readPlace_40 : decode cX9_readPlace 40 = .ok (.bipush 99, 2) := by decide +kernel
theorem dX9_readPlace_42 : decode cX9_readPlace 42 = .ok (.if_icmp .le 8, 3) := by decide +kernel
theorem dX9_readPlace_45 : decode cX9_readPlace 45 = .ok (.aload_n 0, 1) := by decide +kernel
theorem dX9_readPlace_46 : decode cX9_readPlace 46 = .ok (.iconst 4, 1) := by decide +kernel
theorem dX9_readPlace_47 : decode cX9_readPlace 47 = .ok (.invokevirtual 209, 3) := by decide +kernel
theorem dX9_readPlace_50 : decode cX9_readPlace 50 = .ok (.aload_n 0, 1) := by decide +kernel
theorem dX9_readPlace_51 : decode cX9_readPlace 51 = .ok (.invokevirtual 225, 3) := by decide +kernel
theorem dX9_readPlace_54 : decode cX9_readPlace 54 = .ok (.aload_n 0, 1) := by decide +kernel
theorem dX9_readPlace_55 : decode cX9_readPlace 55 = .ok (.getfield 16, 3) := by decide +kernel
theorem dX9_readPlace_58 : decode cX9_readPlace 58 = .ok (.bipush 20, 2) := by decide +kernel
theorem dX9_readPlace_60 : decode cX9_readPlace 60 = .ok (.aload_n 0, 1) := by decide +kernel
theorem dX9_readPlace_61 : decode cX9_readPlace 61 = .ok (.getfield 212, 3) := by decide +kernel
theorem dX9_readPlace_64 : decode cX9_readPlace 64 = .ok (.iadd, 1) := by decide +kernel
theorem dX9_readPlace_65 : decode cX9_readPlace 65 = .ok (.iload_n 1, 1) := by decide +kernel
theorem dX9_readPlace_66 : decode cX9_readPlace 66 = .ok (.iastore, 1) := by decide +kernel
theorem dX9_readPlace_67 : decode cX9_readPlace 67 = .ok (.aload_n 0, 1) := by decide +kernel
theorem dX9_readPlace_68 : decode cX9_readPlace 68 = .ok (.dup, 1) := by decide +kernel
theorem dX9_readPlace_69 : decode cX9_readPlace 69 = .ok (.getfield 212, 3) := by decide +kernel
theorem dX9_readPlace_72 : decode cX9_readPlace 72 = .ok (.iconst 1, 1) := by decide +kernel
theorem dX9_readPlace_73 : decode cX9_readPlace 73 = .ok (.iadd, 1) := by decide +kernel
theorem dX9_readPlace_74 : decode cX9_readPlace 74 = .ok (.putfield 212, 3) := by decide +kernel
theorem dX9_readPlace_77 : decode cX9_readPlace 77 = .ok (.return_, 1) := by decide +kernel
theorem dX9_readArc_0 : decode cX9_readArc 0 = .ok (.aload_n 0, 1) := by decide +kernel
theorem dX9_readArc_1 : decode cX9_readArc 1 = .ok (.getfield 165, 3) := by decide +kernel
theorem dX9_readArc_4 : decode cX9_readArc 4 = .ok (.istore_n 2, 1) := by decide +kernel
theorem dX9_readArc_5 : decode cX9_readArc 5 = .ok (.aload_n 0, 1) := by decide +kernel
theorem dX9_readArc_6 : decode cX9_readArc 6 = .ok (.invokevirtual 199, 3) := by decide +kernel
theorem dX9_readArc_9 : decode cX9_readArc 9 = .ok (.iconst 1, 1) := by decide +kernel
theorem dX9_readArc_10 : decode cX9_readArc 10 = .ok (.istore_n 3, 1) := by decide +kernel
theorem dX9_readArc_11 : decode cX9_readArc 11 = .ok (.aload_n 0, 1) := by decide +kernel
theorem dX9_readArc_12 : decode cX9_readArc 12 = .ok (.getfield 171, 3) := by decide +kernel
theorem dX9_readArc_15 : decode cX9_readArc 15 = .ok (.iconst 2, 1) := by decide +kernel
theorem dX9_readArc_16 : decode cX9_readArc 16 = .ok (.if_icmp .ne 26, 3) := by decide +kernel
theorem dX9_readArc_19 : decode cX9_readArc 19 = .ok (.aload_n 0, 1) := by decide +kernel
theorem dX9_readArc_20 : decode cX9_readArc 20 = .ok (.getfield 168, 3) := by decide +kernel
theorem dX9_readArc_23 : decode cX9_readArc 23 = .ok (.istore_n 3, 1) := by decide +kernel
theorem dX9_readArc_24 : decode cX9_readArc 24 = .ok (.iload_n 3, 1) := by decide +kernel
theorem dX9_readArc_25 : decode cX9_readArc 25 = .ok (.iconst 1, 1) := by decide +kernel
theorem dX9_readArc_26 : decode cX9_readArc 26 = .ok (.iconst 3, 1) := by decide +kernel
theorem dX9_readArc_27 : decode cX9_readArc 27 = .ok (.invokestatic 136, 3) := by decide +kernel
theorem dX9_readArc_30 : decode cX9_readArc 30 = .ok (.ifCond .ne 8, 3) := by decide +kernel
theorem dX9_readArc_33 : decode cX9_readArc 33 = .ok (.aload_n 0, 1) := by decide +kernel
theorem dX9_readArc_34 : decode cX9_readArc 34 = .ok (.iconst 4, 1) := by decide +kernel
theorem dX9_readArc_35 : decode cX9_readArc 35 = .ok (.invokevirtual 209, 3) := by decide +kernel
theorem dX9_readArc_38 : decode cX9_readArc 38 = .ok (.aload_n 0, 1) := by decide +kernel
theorem dX9_readArc_39 : decode cX9_readArc 39 = .ok (.invokevirtual 225, 3) := by decide +kernel
theorem dX9_readArc_42 : decode cX9_readArc 42 = .ok (.aload_n 0, 1) := by decide +kernel
theorem dX9_readArc_43 : decode cX9_readArc 43 = .ok (.invokevirtual 195, 3) := by decide +kernel
theorem dX9_readArc_46 : decode cX9_readArc 46 = .ok (.ifCond .ne 4, 3) := by decide +kernel
theorem dX9_readArc_49 : decode cX9_readArc 49 = .ok (.return_, 1) := by decide +kernel
theorem dX9_readArc_50 : decode cX9_readArc 50 = .ok (.aload_n 0, 1) := by decide +kernel
theorem dX9_readArc_51 : decode cX9_readArc 51 = .ok (.invokevirtual 215, 3) := by decide +kernel
theorem dX9_readArc_54 : decode cX9_readArc 54 = .ok (.aload_n 0, 1) := by decide +kernel
theorem dX9_readArc_55 : decode cX9_readArc 55 = .ok (.invokevirtual 195, 3) := by decide +kernel
theorem dX9_readArc_58 : decode cX9_readArc 58 = .ok (.ifCond .eq 10, 3) := by decide +kernel
theorem dX9_readArc_61 : decode cX9_readArc 61 = .ok (.aload_n 0, 1) := by decide +kernel
theorem dX9_readArc_62 : decode cX9_readArc 62 = .ok (.invokevirtual 218, 3) := by decide +kernel
theorem dX9_readArc_65 : decode cX9_readArc 65 = .ok (.goto 4, 3) := by decide +kernel
theorem dX9_readArc_68 : decode cX9_readArc 68 = .ok (.iconst 0, 1) := by decide +kernel
theorem dX9_readArc_69 : decode cX9_readArc 69 = .ok (.istore 4, 2) := by decide +kernel
theorem dX9_readArc_71 : decode cX9_readArc 71 = .ok (.iload 4, 2) := by decide +kernel
theorem dX9_readArc_73 : decode cX9_readArc 73 = .ok (.ifCond .ge 8, 3) := by decide +kernel
theorem dX9_readArc_76 : decode cX9_readArc 76 = .ok (.aload_n 0, 1) := by decide +kernel
theorem dX9_readArc_77 : decode cX9_readArc 77 = .ok (.iconst 3, 1) := by decide +kernel
theorem dX9_readArc_78 : decode cX9_readArc 78 = .ok (.invokevirtual 209, 3) := by decide +kernel
theorem dX9_readArc_81 : decode cX9_readArc 81 = .ok (.aload_n 0, 1) := by decide +kernel
theorem dX9_readArc_82 : decode cX9_readArc 82 = .ok (.invokevirtual 195, 3) := by decide +kernel
theorem dX9_readArc_85 : decode cX9_readArc 85 = .ok (.ifCond .ne 4, 3) := by decide +kernel
theorem dX9_readArc_88 : decode cX9_readArc 88 = .ok (.return_, 1) := by decide +kernel
theorem dX9_readArc_89 : decode cX9_readArc 89 = .ok (.aload_n 0, 1) := by decide +kernel
theorem dX9_readArc_90 : decode cX9_readArc 90 = .ok (.iconst 2, 1) := by decide +kernel
theorem dX9_readArc_91 : decode cX9_readArc 91 = .ok (.aload_n 0, 1) := by decide +kernel
theorem dX9_readArc_92 : decode cX9_readArc 92 = .ok (.getfield 222, 3) := by decide +kernel
theorem dX9_readArc_95 : decode cX9_readArc 95 = .ok (.iload 4, 2) := by decide +kernel
theorem dX9_readArc_97 : decode cX9_readArc 97 = .ok (.invokevirtual 144, 3) := by decide +kernel
theorem dX9_readArc_100 : decode cX9_readArc 100 = .ok (.istore 5, 2) := by decide +kernel
theorem dX9_readArc_102 : decode cX9_readArc 102 = .ok (.iload_n 3, 1) := by decide +kernel
theorem dX9_readArc_103 : decode cX9_readArc 103 = .ok (.iload_n 1, 1) := by decide +kernel
theorem dX9_readArc_104 : decode cX9_readArc 104 = .ok (.ifCond .eq 13, 3) := by decide +kernel
theorem dX9_readArc_107 : decode cX9_readArc 107 = .ok (.aload_n 0, 1) := by decide +kernel
theorem dX9_readArc_108 : decode cX9_readArc 108 = .ok (.getfield 7, 3) := by decide +kernel
theorem dX9_readArc_111 : decode cX9_readArc 111 = .ok (.iload 5, 2) := by decide +kernel
theorem dX9_readArc_113 : decode cX9_readArc 113 = .ok (.iaload, 1) := by decide +kernel
theorem dX9_readArc_114 : decode cX9_readArc 114 = .ok (.goto 10, 3) := by decide +kernel
theorem dX9_readArc_117 : decode cX9_readArc 117 = .ok (.aload_n 0, 1) := by decide +kernel
theorem dX9_readArc_118 : decode cX9_readArc 118 = .ok (.getfield 13, 3) := by decide +kernel
theorem dX9_readArc_121 : decode cX9_readArc 121 = .ok (.iload 5, 2) := by decide +kernel
theorem dX9_readArc_123 : decode cX9_readArc 123 = .ok (.iaload, 1) := by decide +kernel
theorem dX9_readArc_124 : decode cX9_readArc 124 = .ok (.iadd, 1) := by decide +kernel
theorem dX9_readArc_125 : decode cX9_readArc 125 = .ok (.istore 6, 2) := by decide +kernel
theorem dX9_readArc_127 : decode cX9_readArc 127 = .ok (.iload 6, 2) := by decide +kernel
theorem dX9_readArc_129 : decode cX9_readArc 129 = .ok (.iconst 3, 1) := by decide +kernel
theorem dX9_readArc_130 : decode cX9_readArc 130 = .ok (.if_icmp .le 9, 3) := by decide +kernel
theorem dX9_readArc_133 : decode cX9_readArc 133 = .ok (.aload_n 0, 1) := by decide +kernel
theorem dX9_readArc_134 : decode cX9_readArc 134 = .ok (.iconst 4, 1) := by decide +kernel
theorem dX9_readArc_135 : decode cX9_readArc 135 = .ok (.iload_n 2, 1) := by decide +kernel
theorem dX9_readArc_136 : decode cX9_readArc 136 = .ok (.invokevirtual 191, 3) := by decide +kernel
theorem dX9_readArc_139 : decode cX9_readArc 139 = .ok (.iload_n 1, 1) := by decide +kernel
theorem dX9_readArc_140 : decode cX9_readArc 140 = .ok (.ifCond .eq 15, 3) := by decide +kernel
theorem dX9_readArc_143 : decode cX9_readArc 143 = .ok (.aload_n 0, 1) := by decide +kernel
theorem dX9_readArc_144 : decode cX9_readArc 144 = .ok (.getfield 7, 3) := by decide +kernel
theorem dX9_readArc_147 : decode cX9_readArc 147 = .ok (.iload 5, 2) := by decide +kernel
theorem dX9_readArc_149 : decode cX9_readArc 149 = .ok (.iload 6, 2) := by decide +kernel
theorem dX9_readArc_151 : decode cX9_readArc 151 = .ok (.iastore, 1) := by decide +kernel
theorem dX9_readArc_152 : decode cX9_readArc 152 = .ok (.goto 12, 3) := by decide +kernel
theorem dX9_readArc_155 : decode cX9_readArc 155 = .ok (.aload_n 0, 1) := by decide +kernel
theorem dX9_readArc_156 : decode cX9_readArc 156 = .ok (.getfield 13, 3) := by decide +kernel
theorem dX9_readArc_159 : decode cX9_readArc 159 = .ok (.iload 5, 2) := by decide +kernel
theorem dX9_readArc_161 : decode cX9_readArc 161 = .ok (.iload 6, 2) := by decide +kernel
theorem dX9_readArc_163 : decode cX9_readArc 163 = .ok (.iastore, 1) := by decide +kernel
theorem dX9_readArc_164 : decode cX9_readArc 164 = .ok (.aload_n 0, 1) := by decide +kernel
theorem dX9_readArc_165 : decode cX9_readArc 165 = .ok (.invokevirtual 225, 3) := by decide +kernel
theorem dX9_readArc_168 : decode cX9_readArc 168 = .ok (.return_, 1) := by decide +kernel
theorem dX9_readLine_0 : decode cX9_readLine 0 = .ok (.aload_n 0, 1) := by decide +kernel
theorem dX9_readLine_1 : decode cX9_readLine 1 = .ok (.ldc 202, 2) := by decide +kernel
theorem dX9_readLine_3 : decode cX9_readLine 3 = .ok (.invokevirtual 203, 3) := by decide +kernel
theorem dX9_readLine_6 : decode cX9_readLine 6 = .ok (.istore_n 1, 1) := by decide +kernel
theorem dX9_readLine_7 : decode cX9_readLine 7 = .ok (.iload_n 1, 1) := by decide +kernel
theorem dX9_readLine_8 : decode cX9_readLine 8 = .ok (.ifCond .ne 20, 3) := by decide +kernel
theorem dX9_readLine_11 : decode cX9_readLine 11 = .ok (.aload_n 0, 1) := by decide +kernel
theorem dX9_readLine_12 : decode cX9_readLine 12 = .ok (.ldc 206, 2) := by decide +kernel
theorem dX9_readLine_14 : decode cX9_readLine 14 = .ok (.invokevirtual 203, 3) := by decide +kernel
theorem dX9_readLine_17 : decode cX9_readLine 17 = .ok (.ifCond .ne 11, 3) := by decide +kernel
theorem dX9_readLine_20 : decode cX9_readLine 20 = .ok (.aload_n 0, 1) := by decide +kernel
theorem dX9_readLine_21 : decode cX9_readLine 21 = .ok (.iconst 2, 1) := by decide +kernel
theorem dX9_readLine_22 : decode cX9_readLine 22 = .ok (.invokevirtual 209, 3) := by decide +kernel
theorem dX9_readLine_25 : decode cX9_readLine 25 = .ok (.goto 33, 3) := by decide +kernel
theorem dX9_readLine_28 : decode cX9_readLine 28 = .ok (.iload_n 1, 1) := by decide +kernel
theorem dX9_readLine_29 : decode cX9_readLine 29 = .ok (.ifCond .eq 15, 3) := by decide +kernel
theorem dX9_readLine_32 : decode cX9_readLine 32 = .ok (.aload_n 0, 1) := by decide +kernel
theorem dX9_readLine_33 : decode cX9_readLine 33 = .ok (.getfield 212, 3) := by decide +kernel
theorem dX9_readLine_36 : decode cX9_readLine 36 = .ok (.bipush 10, 2) := by decide +kernel
theorem dX9_readLine_38 : decode cX9_readLine 38 = .ok (.if_icmp .ne 20, 3) := by decide +kernel
theorem dX9_readLine_41 : decode cX9_readLine 41 = .ok (.goto 12, 3) := by decide +kernel
theorem dX9_readLine_44 : decode cX9_readLine 44 = .ok (.aload_n 0, 1) := by decide +kernel
theorem dX9_readLine_45 : decode cX9_readLine 45 = .ok (.getfield 222, 3) := by decide +kernel
theorem dX9_readLine_48 : decode cX9_readLine 48 = .ok (.bipush 8, 2) := by decide +kernel
theorem dX9_readLine_50 : decode cX9_readLine 50 = .ok (.if_icmp .ne 8, 3) := by decide +kernel
theorem dX9_readLine_53 : decode cX9_readLine 53 = .ok (.aload_n 0, 1) := by decide +kernel
theorem dX9_readLine_54 : decode cX9_readLine 54 = .ok (.iconst 5, 1) := by decide +kernel
theorem dX9_readLine_55 : decode cX9_readLine 55 = .ok (.invokevirtual 209, 3) := by decide +kernel
theorem dX9_readLine_58 : decode cX9_readLine 58 = .ok (.aload_n 0, 1) := by decide +kernel
theorem dX9_readLine_59 : decode cX9_readLine 59 = .ok (.invokevirtual 195, 3) := by decide +kernel
theorem dX9_readLine_62 : decode cX9_readLine 62 = .ok (.ifCond .ne 4, 3) := by decide +kernel
theorem dX9_readLine_65 : decode cX9_readLine 65 = .ok (.return_, 1) := by decide +kernel
theorem dX9_readLine_66 : decode cX9_readLine 66 = .ok (.iload_n 1, 1) := by decide +kernel
theorem dX9_readLine_67 : decode cX9_readLine 67 = .ok (.ifCond .eq 10, 3) := by decide +kernel
theorem dX9_readLine_70 : decode cX9_readLine 70 = .ok (.aload_n 0, 1) := by decide +kernel
theorem dX9_readLine_71 : decode cX9_readLine 71 = .ok (.invokevirtual 231, 3) := by decide +kernel
theorem dX9_readLine_74 : decode cX9_readLine 74 = .ok (.goto 70, 3) := by decide +kernel
theorem dX9_readLine_77 : decode cX9_readLine 77 = .ok (.aload_n 0, 1) := by decide +kernel
theorem dX9_readLine_78 : decode cX9_readLine 78 = .ok (.invokevirtual 199, 3) := by decide +kernel
theorem dX9_readLine_81 : decode cX9_readLine 81 = .ok (.aload_n 0, 1) := by decide +kernel
theorem dX9_readLine_82 : decode cX9_readLine 82 = .ok (.invokevirtual 228, 3) := by decide +kernel
theorem dX9_readLine_85 : decode cX9_readLine 85 = .ok (.istore_n 2, 1) := by decide +kernel
theorem dX9_readLine_86 : decode cX9_readLine 86 = .ok (.aload_n 0, 1) := by decide +kernel
theorem dX9_readLine_87 : decode cX9_readLine 87 = .ok (.invokevirtual 195, 3) := by decide +kernel
theorem dX9_readLine_90 : decode cX9_readLine 90 = .ok (.ifCond .eq 34, 3) := by decide +kernel
theorem dX9_readLine_93 : decode cX9_readLine 93 = .ok (.aload_n 0, 1) := by decide +kernel
theorem dX9_readLine_94 : decode cX9_readLine 94 = .ok (.ldc 207, 2) := by decide +kernel
theorem dX9_readLine_96 : decode cX9_readLine 96 = .ok (.invokevirtual 203, 3) := by decide +kernel
theorem dX9_readLine_99 : decode cX9_readLine 99 = .ok (.ifCond .ne 12, 3) := by decide +kernel
theorem dX9_readLine_102 : decode cX9_readLine 102 = .ok (.aload_n 0, 1) := by decide +kernel
theorem dX9_readLine_103 : decode cX9_readLine 103 = .ok (.ldc 208, 2) := by decide +kernel
theorem dX9_readLine_105 : decode cX9_readLine 105 = .ok (.invokevirtual 203, 3) := by decide +kernel
theorem dX9_readLine_108 : decode cX9_readLine 108 = .ok (.ifCond .eq 16, 3) := by decide +kernel
theorem dX9_readLine_111 : decode cX9_readLine 111 = .ok (.aload_n 0, 1) := by decide +kernel
theorem dX9_readLine_112 : decode cX9_readLine 112 = .ok (.aload_n 0, 1) := by decide +kernel
theorem dX9_readLine_113 : decode cX9_readLine 113 = .ok (.ldc 207, 2) := by decide +kernel
theorem dX9_readLine_115 : decode cX9_readLine 115 = .ok (.invokevirtual 203, 3) := by decide +kernel
theorem dX9_readLine_118 : decode cX9_readLine 118 = .ok (.invokevirtual 234, 3) := by decide +kernel
theorem dX9_readLine_121 : decode cX9_readLine 121 = .ok (.goto (-35), 3) := by decide +kernel
theorem dX9_readLine_124 : decode cX9_readLine 124 = .ok (.aload_n 0, 1) := by decide +kernel
theorem dX9_readLine_125 : decode cX9_readLine 125 = .ok (.getfield 28, 3) := by decide +kernel
theorem dX9_readLine_128 : decode cX9_readLine 128 = .ok (.aload_n 0, 1) := by decide +kernel
theorem dX9_readLine_129 : decode cX9_readLine 129 = .ok (.getfield 222, 3) := by decide +kernel
theorem dX9_readLine_132 : decode cX9_readLine 132 = .ok (.iload_n 2, 1) := by decide +kernel
theorem dX9_readLine_133 : decode cX9_readLine 133 = .ok (.iastore, 1) := by decide +kernel
theorem dX9_readLine_134 : decode cX9_readLine 134 = .ok (.aload_n 0, 1) := by decide +kernel
theorem dX9_readLine_135 : decode cX9_readLine 135 = .ok (.dup, 1) := by decide +kernel
theorem dX9_readLine_136 : decode cX9_readLine 136 = .ok (.getfield 222, 3) := by decide +kernel
theorem dX9_readLine_139 : decode cX9_readLine 139 = .ok (.iconst 1, 1) := by decide +kernel
theorem dX9_readLine_140 : decode cX9_readLine 140 = .ok (.iadd, 1) := by decide +kernel
theorem dX9_readLine_141 : decode cX9_readLine 141 = .ok (.putfield 222, 3) := by decide +kernel
theorem dX9_readLine_144 : decode cX9_readLine 144 = .ok (.aload_n 0, 1) := by decide +kernel
theorem dX9_readLine_145 : decode cX9_readLine 145 = .ok (.invokevirtual 195, 3) := by decide +kernel
theorem dX9_readLine_148 : decode cX9_readLine 148 = .ok (.ifCond .eq 16, 3) := by decide +kernel
theorem dX9_readLine_151 : decode cX9_readLine 151 = .ok (.aload_n 0, 1) := by decide +kernel
theorem dX9_readLine_152 : decode cX9_readLine 152 = .ok (.getfield 171, 3) := by decide +kernel
theorem dX9_readLine_155 : decode cX9_readLine 155 = .ok (.iconst 3, 1) := by decide +kernel
theorem dX9_readLine_156 : decode cX9_readLine 156 = .ok (.if_icmp .eq 8, 3) := by decide +kernel
theorem dX9_readLine_159 : decode cX9_readLine 159 = .ok (.aload_n 0, 1) := by decide +kernel
theorem dX9_readLine_160 : decode cX9_readLine 160 = .ok (.iconst 2, 1) := by decide +kernel
theorem dX9_readLine_161 : decode cX9_readLine 161 = .ok (.invokevirtual 209, 3) := by decide +kernel
theorem dX9_readLine_164 : decode cX9_readLine 164 = .ok (.aload_n 0, 1) := by decide +kernel
theorem dX9_readLine_165 : decode cX9_readLine 165 = .ok (.invokevirtual 225, 3) := by decide +kernel
theorem dX9_readLine_168 : decode cX9_readLine 168 = .ok (.return_, 1) := by decide +kernel
theorem dX9_net_0 : decode cX9_net 0 = .ok (.aload_n 0, 1) := by decide +kernel
theorem dX9_net_1 : decode cX9_net 1 = .ok (.iconst 0, 1) := by decide +kernel
theorem dX9_net_2 : decode cX9_net 2 = .ok (.putfield 133, 3) := by decide +kernel
theorem dX9_net_5 : decode cX9_net 5 = .ok (.aload_n 0, 1) := by decide +kernel
theorem dX9_net_6 : decode cX9_net 6 = .ok (.aload_n 0, 1) := by decide +kernel
theorem dX9_net_7 : decode cX9_net 7 = .ok (.getfield 148, 3) := by decide +kernel
theorem dX9_net_10 : decode cX9_net 10 = .ok (.putfield 155, 3) := by decide +kernel
theorem dX9_net_13 : decode cX9_net 13 = .ok (.aload_n 0, 1) := by decide +kernel
theorem dX9_net_14 : decode cX9_net 14 = .ok (.iconst 0, 1) := by decide +kernel
theorem dX9_net_15 : decode cX9_net 15 = .ok (.putfield 148, 3) := by decide +kernel
theorem dX9_net_18 : decode cX9_net 18 = .ok (.aload_n 0, 1) := by decide +kernel
theorem dX9_net_19 : decode cX9_net 19 = .ok (.iconst 0, 1) := by decide +kernel
theorem dX9_net_20 : decode cX9_net 20 = .ok (.putfield 158, 3) := by decide +kernel
theorem dX9_net_23 : decode cX9_net 23 = .ok (.aload_n 0, 1) := by decide +kernel
theorem dX9_net_24 : decode cX9_net 24 = .ok (.iconst 0, 1) := by decide +kernel
theorem dX9_net_25 : decode cX9_net 25 = .ok (.putfield 185, 3) := by decide +kernel
theorem dX9_net_28 : decode cX9_net 28 = .ok (.aload_n 0, 1) := by decide +kernel
theorem dX9_net_29 : decode cX9_net 29 = .ok (.iconst 0, 1) := by decide +kernel
theorem dX9_net_30 : decode cX9_net 30 = .ok (.putfield 212, 3) := by decide +kernel
theorem dX9_net_33 : decode cX9_net 33 = .ok (.aload_n 0, 1) := by decide +kernel
theorem dX9_net_34 : decode cX9_net 34 = .ok (.iconst 0, 1) := by decide +kernel
theorem dX9_net_35 : decode cX9_net 35 = .ok (.putfield 222, 3) := by decide +kernel
theorem dX9_net_38 : decode cX9_net 38 = .ok (.iconst 0, 1) := by decide +kernel
theorem dX9_net_39 : decode cX9_net 39 = .ok (.istore_n 1, 1) := by decide +kernel
theorem dX9_net_40 : decode cX9_net 40 = .ok (.iload_n 1, 1) := by decide +kernel
theorem dX9_net_41 : decode cX9_net 41 = .ok (.bipush 80, 2) := by decide +kernel
theorem dX9_net_43 : decode cX9_net 43 = .ok (.if_icmp .ge 31, 3) := by decide +kernel
theorem dX9_net_46 : decode cX9_net 46 = .ok (.aload_n 0, 1) := by decide +kernel
theorem dX9_net_47 : decode cX9_net 47 = .ok (.getfield 7, 3) := by decide +kernel
theorem dX9_net_50 : decode cX9_net 50 = .ok (.sipush 160, 3) := by decide +kernel
theorem dX9_net_53 : decode cX9_net 53 = .ok (.iload_n 1, 1) := by decide +kernel
theorem dX9_net_54 : decode cX9_net 54 = .ok (.iadd, 1) := by decide +kernel
theorem dX9_net_55 : decode cX9_net 55 = .ok (.iconst 0, 1) := by decide +kernel
theorem dX9_net_56 : decode cX9_net 56 = .ok (.iastore, 1) := by decide +kernel
theorem dX9_net_57 : decode cX9_net 57 = .ok (.aload_n 0, 1) := by decide +kernel
theorem dX9_net_58 : decode cX9_net 58 = .ok (.getfield 13, 3) := by decide +kernel
theorem dX9_net_61 : decode cX9_net 61 = .ok (.sipush 160, 3) := by decide +kernel
theorem dX9_net_64 : decode cX9_net 64 = .ok (.iload_n 1, 1) := by decide +kernel
theorem dX9_net_65 : decode cX9_net 65 = .ok (.iadd, 1) := by decide +kernel
theorem dX9_net_66 : decode cX9_net 66 = .ok (.iconst 0, 1) := by decide +kernel
theorem dX9_net_67 : decode cX9_net 67 = .ok (.iastore, 1) := by decide +kernel
theorem dX9_net_68 : decode cX9_net 68 = .ok (.iinc 1 1, 3) := by decide +kernel
theorem dX9_net_71 : decode cX9_net 71 = .ok (.goto (-31), 3) := by decide +kernel
theorem dX9_net_74 : decode cX9_net 74 = .ok (.iconst 0, 1) := by decide +kernel
theorem dX9_net_75 : decode cX9_net 75 = .ok (.istore_n 1, 1) := by decide +kernel
theorem dX9_net_76 : decode cX9_net 76 = .ok (.iload_n 1, 1) := by decide +kernel
theorem dX9_net_77 : decode cX9_net 77 = .ok (.bipush 10, 2) := by decide +kernel
theorem dX9_net_79 : decode cX9_net 79 = .ok (.if_icmp .ge 19, 3) := by decide +kernel
theorem dX9_net_82 : decode cX9_net 82 = .ok (.aload_n 0, 1) := by decide +kernel
theorem dX9_net_83 : decode cX9_net 83 = .ok (.getfield 16, 3) := by decide +kernel
theorem dX9_net_86 : decode cX9_net 86 = .ok (.bipush 20, 2) := by decide +kernel
theorem dX9_net_88 : decode cX9_net 88 = .ok (.iload_n 1, 1) := by decide +kernel
theorem dX9_net_89 : decode cX9_net 89 = .ok (.iadd, 1) := by decide +kernel
theorem dX9_net_90 : decode cX9_net 90 = .ok (.iconst 0, 1) := by decide +kernel
theorem dX9_net_91 : decode cX9_net 91 = .ok (.iastore, 1) := by decide +kernel
theorem dX9_net_92 : decode cX9_net 92 = .ok (.iinc 1 1, 3) := by decide +kernel
theorem dX9_net_95 : decode cX9_net 95 = .ok (.goto (-19), 3) := by decide +kernel
theorem dX9_net_98 : decode cX9_net 98 = .ok (.aload_n 0, 1) := by decide +kernel
theorem dX9_net_99 : decode cX9_net 99 = .ok (.invokevirtual 199, 3) := by decide +kernel
theorem dX9_net_102 : decode cX9_net 102 = .ok (.aload_n 0, 1) := by decide +kernel
theorem dX9_net_103 : decode cX9_net 103 = .ok (.invokevirtual 195, 3) := by decide +kernel
theorem dX9_net_106 : decode cX9_net 106 = .ok (.ifCond .eq 17, 3) := by decide +kernel
theorem dX9_net_109 : decode cX9_net 109 = .ok (.aload_n 0, 1) := by decide +kernel
theorem dX9_net_110 : decode cX9_net 110 = .ok (.getfield 171, 3) := by decide +kernel
theorem dX9_net_113 : decode cX9_net 113 = .ok (.ifCond .eq 10, 3) := by decide +kernel
theorem dX9_net_116 : decode cX9_net 116 = .ok (.aload_n 0, 1) := by decide +kernel
theorem dX9_net_117 : decode cX9_net 117 = .ok (.invokevirtual 238, 3) := by decide +kernel
theorem dX9_net_120 : decode cX9_net 120 = .ok (.goto (-18), 3) := by decide +kernel
theorem dX9_net_123 : decode cX9_net 123 = .ok (.aload_n 0, 1) := by decide +kernel
theorem dX9_net_124 : decode cX9_net 124 = .ok (.aload_n 0, 1) := by decide +kernel
theorem dX9_net_125 : decode cX9_net 125 = .ok (.getfield 185, 3) := by decide +kernel
theorem dX9_net_128 : decode cX9_net 128 = .ok (.putfield 241, 3) := by decide +kernel
theorem dX9_net_131 : decode cX9_net 131 = .ok (.aload_n 0, 1) := by decide +kernel
theorem dX9_net_132 : decode cX9_net 132 = .ok (.aload_n 0, 1) := by decide +kernel
theorem dX9_net_133 : decode cX9_net 133 = .ok (.invokevirtual 195, 3) := by decide +kernel
theorem dX9_net_136 : decode cX9_net 136 = .ok (.ifCond .eq 7, 3) := by decide +kernel
theorem dX9_net_139 : decode cX9_net 139 = .ok (.iconst (-1), 1) := by decide +kernel
theorem dX9_net_140 : decode cX9_net 140 = .ok (.goto 7, 3) := by decide +kernel
theorem dX9_net_143 : decode cX9_net 143 = .ok (.aload_n 0, 1) := by decide +kernel
theorem dX9_net_144 : decode cX9_net 144 = .ok (.getfield 188, 3) := by decide +kernel
theorem dX9_net_147 : decode cX9_net 147 = .ok (.putfield 37, 3) := by decide +kernel
theorem dX9_net_150 : decode cX9_net 150 = .ok (.aload_n 0, 1) := by decide +kernel
theorem dX9_net_151 : decode cX9_net 151 = .ok (.invokevirtual 195, 3) := by decide +kernel
theorem dX9_net_154 : decode cX9_net 154 = .ok (.ifCond .ne 5, 3) := by decide +kernel
theorem dX9_net_157 : decode cX9_net 157 = .ok (.iconst (-1), 1) := by decide +kernel
theorem dX9_net_158 : decode cX9_net 158 = .ok (.ireturn, 1) := by decide +kernel
theorem dX9_net_159 : decode cX9_net 159 = .ok (.aload_n 0, 1) := by decide +kernel
theorem dX9_net_160 : decode cX9_net 160 = .ok (.getfield 19, 3) := by decide +kernel
theorem dX9_net_163 : decode cX9_net 163 = .ok (.iconst 2, 1) := by decide +kernel
theorem dX9_net_164 : decode cX9_net 164 = .ok (.iconst 1, 1) := by decide +kernel
theorem dX9_net_165 : decode cX9_net 165 = .ok (.aload_n 0, 1) := by decide +kernel
theorem dX9_net_166 : decode cX9_net 166 = .ok (.getfield 212, 3) := by decide +kernel
theorem dX9_net_169 : decode cX9_net 169 = .ok (.ishl, 1) := by decide +kernel
theorem dX9_net_170 : decode cX9_net 170 = .ok (.iconst 1, 1) := by decide +kernel
theorem dX9_net_171 : decode cX9_net 171 = .ok (.isub, 1) := by decide +kernel
theorem dX9_net_172 : decode cX9_net 172 = .ok (.iastore, 1) := by decide +kernel
theorem dX9_net_173 : decode cX9_net 173 = .ok (.aload_n 0, 1) := by decide +kernel
theorem dX9_net_174 : decode cX9_net 174 = .ok (.getfield 22, 3) := by decide +kernel
theorem dX9_net_177 : decode cX9_net 177 = .ok (.iconst 2, 1) := by decide +kernel
theorem dX9_net_178 : decode cX9_net 178 = .ok (.iconst 1, 1) := by decide +kernel
theorem dX9_net_179 : decode cX9_net 179 = .ok (.aload_n 0, 1) := by decide +kernel
theorem dX9_net_180 : decode cX9_net 180 = .ok (.getfield 222, 3) := by decide +kernel
theorem dX9_net_183 : decode cX9_net 183 = .ok (.ishl, 1) := by decide +kernel
theorem dX9_net_184 : decode cX9_net 184 = .ok (.iconst 1, 1) := by decide +kernel
theorem dX9_net_185 : decode cX9_net 185 = .ok (.isub, 1) := by decide +kernel
theorem dX9_net_186 : decode cX9_net 186 = .ok (.iastore, 1) := by decide +kernel
theorem dX9_net_187 : decode cX9_net 187 = .ok (.aload_n 0, 1) := by decide +kernel
theorem dX9_net_188 : decode cX9_net 188 = .ok (.iconst 2, 1) := by decide +kernel
theorem dX9_net_189 : decode cX9_net 189 = .ok (.iconst 0, 1) := by decide +kernel
theorem dX9_net_190 : decode cX9_net 190 = .ok (.invokevirtual 244, 3) := by decide +kernel
theorem dX9_net_193 : decode cX9_net 193 = .ok (.iconst 0, 1) := by decide +kernel
theorem dX9_net_194 : decode cX9_net 194 = .ok (.istore_n 1, 1) := by decide +kernel
theorem dX9_net_195 : decode cX9_net 195 = .ok (.iload_n 1, 1) := by decide +kernel
theorem dX9_net_196 : decode cX9_net 196 = .ok (.bipush 10, 2) := by decide +kernel
theorem dX9_net_198 : decode cX9_net 198 = .ok (.if_icmp .ge 16, 3) := by decide +kernel
theorem dX9_net_201 : decode cX9_net 201 = .ok (.aload_n 0, 1) := by decide +kernel
theorem dX9_net_202 : decode cX9_net 202 = .ok (.getfield 31, 3) := by decide +kernel
theorem dX9_net_205 : decode cX9_net 205 = .ok (.iload_n 1, 1) := by decide +kernel
theorem dX9_net_206 : decode cX9_net 206 = .ok (.iconst 0, 1) := by decide +kernel
theorem dX9_net_207 : decode cX9_net 207 = .ok (.iastore, 1) := by decide +kernel
theorem dX9_net_208 : decode cX9_net 208 = .ok (.iinc 1 1, 3) := by decide +kernel
theorem dX9_net_211 : decode cX9_net 211 = .ok (.goto (-16), 3) := by decide +kernel
theorem dX9_net_214 : decode cX9_net 214 = .ok (.aload_n 0, 1) := by decide +kernel
theorem dX9_net_215 : decode cX9_net 215 = .ok (.iconst 0, 1) := by decide +kernel
theorem dX9_net_216 : decode cX9_net 216 = .ok (.putfield 247, 3) := by decide +kernel
theorem dX9_net_219 : decode cX9_net 219 = .ok (.aload_n 0, 1) := by decide +kernel
theorem dX9_net_220 : decode cX9_net 220 = .ok (.invokevirtual 250, 3) := by decide +kernel
theorem dX9_net_223 : decode cX9_net 223 = .ok (.aload_n 0, 1) := by decide +kernel
theorem dX9_net_224 : decode cX9_net 224 = .ok (.getfield 212, 3) := by decide +kernel
theorem dX9_net_227 : decode cX9_net 227 = .ok (.ireturn, 1) := by decide +kernel
theorem dX9_fault_0 : decode cX9_fault 0 = .ok (.aload_n 0, 1) := by decide +kernel
theorem dX9_fault_1 : decode cX9_fault 1 = .ok (.iconst 0, 1) := by decide +kernel
theorem dX9_fault_2 : decode cX9_fault 2 = .ok (.putfield 133, 3) := by decide +kernel
theorem dX9_fault_5 : decode cX9_fault 5 = .ok (.iload_n 1, 1) := by decide +kernel
theorem dX9_fault_6 : decode cX9_fault 6 = .ok (.ifCond .ne 10, 3) := by decide +kernel
theorem dX9_fault_9 : decode cX9_fault 9 = .ok (.aload_n 0, 1) := by decide +kernel
theorem dX9_fault_10 : decode cX9_fault 10 = .ok (.getfield 241, 3) := by decide +kernel
theorem dX9_fault_13 : decode cX9_fault 13 = .ok (.goto 16, 3) := by decide +kernel
theorem dX9_fault_16 : decode cX9_fault 16 = .ok (.iload_n 1, 1) := by decide +kernel
theorem dX9_fault_17 : decode cX9_fault 17 = .ok (.iconst 1, 1) := by decide +kernel
theorem dX9_fault_18 : decode cX9_fault 18 = .ok (.if_icmp .ne 10, 3) := by decide +kernel
theorem dX9_fault_21 : decode cX9_fault 21 = .ok (.aload_n 0, 1) := by decide +kernel
theorem dX9_fault_22 : decode cX9_fault 22 = .ok (.getfield 37, 3) := by decide +kernel
theorem dX9_fault_25 : decode cX9_fault 25 = .ok (.goto 4, 3) := by decide +kernel
theorem dX9_fault_28 : decode cX9_fault 28 = .ok (.iconst (-1), 1) := by decide +kernel
theorem dX9_fault_29 : decode cX9_fault 29 = .ok (.ireturn, 1) := by decide +kernel
theorem dX9_moved_0 : decode cX9_moved 0 = .ok (.aload_n 0, 1) := by decide +kernel
theorem dX9_moved_1 : decode cX9_moved 1 = .ok (.iconst 0, 1) := by decide +kernel
theorem dX9_moved_2 : decode cX9_moved 2 = .ok (.putfield 253, 3) := by decide +kernel
theorem dX9_moved_5 : decode cX9_moved 5 = .ok (.aload_n 0, 1) := by decide +kernel
theorem dX9_moved_6 : decode cX9_moved 6 = .ok (.iconst 0, 1) := by decide +kernel
theorem dX9_moved_7 : decode cX9_moved 7 = .ok (.putfield 257, 3) := by decide +kernel
theorem dX9_moved_10 : decode cX9_moved 10 = .ok (.return_, 1) := by decide +kernel
theorem dX9_another_0 : decode cX9_another 0 = .ok (.aload_n 0, 1) := by decide +kernel
theorem dX9_another_1 : decode cX9_another 1 = .ok (.iconst 0, 1) := by decide +kernel
theorem dX9_another_2 : decode cX9_another 2 = .ok (.putfield 260, 3) := by decide +kernel
theorem dX9_another_5 : decode cX9_another 5 = .ok (.aload_n 0, 1) := by decide +kernel
theorem dX9_another_6 : decode cX9_another 6 = .ok (.invokevirtual 263, 3) := by decide +kernel
theorem dX9_another_9 : decode cX9_another 9 = .ok (.return_, 1) := by decide +kernel
theorem dX9_about_0 : decode cX9_about 0 = .ok (.aload_n 0, 1) := by decide +kernel
theorem dX9_about_1 : decode cX9_about 1 = .ok (.iconst 0, 1) := by decide +kernel
theorem dX9_about_2 : decode cX9_about 2 = .ok (.putfield 133, 3) := by decide +kernel
theorem dX9_about_5 : decode cX9_about 5 = .ok (.iconst 0, 1) := by decide +kernel
theorem dX9_about_6 : decode cX9_about 6 = .ok (.istore_n 2, 1) := by decide +kernel
theorem dX9_about_7 : decode cX9_about 7 = .ok (.iload_n 1, 1) := by decide +kernel
theorem dX9_about_8 : decode cX9_about 8 = .ok (.tableswitch 122 0 7 #[48, 58, 68, 75, 82, 107, 112, 117], 48) := by decide +kernel
theorem dX9_about_56 : decode cX9_about 56 = .ok (.aload_n 0, 1) := by decide +kernel
theorem dX9_about_57 : decode cX9_about 57 = .ok (.getfield 19, 3) := by decide +kernel
theorem dX9_about_60 : decode cX9_about 60 = .ok (.iconst 0, 1) := by decide +kernel
theorem dX9_about_61 : decode cX9_about 61 = .ok (.iaload, 1) := by decide +kernel
theorem dX9_about_62 : decode cX9_about 62 = .ok (.invokestatic 266, 3) := by decide +kernel
theorem dX9_about_65 : decode cX9_about 65 = .ok (.ireturn, 1) := by decide +kernel
theorem dX9_about_66 : decode cX9_about 66 = .ok (.aload_n 0, 1) := by decide +kernel
theorem dX9_about_67 : decode cX9_about 67 = .ok (.getfield 22, 3) := by decide +kernel
theorem dX9_about_70 : decode cX9_about 70 = .ok (.iconst 0, 1) := by decide +kernel
theorem dX9_about_71 : decode cX9_about 71 = .ok (.iaload, 1) := by decide +kernel
theorem dX9_about_72 : decode cX9_about 72 = .ok (.invokestatic 266, 3) := by decide +kernel
theorem dX9_about_75 : decode cX9_about 75 = .ok (.ireturn, 1) := by decide +kernel
theorem dX9_about_76 : decode cX9_about 76 = .ok (.aload_n 0, 1) := by decide +kernel
theorem dX9_about_77 : decode cX9_about 77 = .ok (.getfield 19, 3) := by decide +kernel
theorem dX9_about_80 : decode cX9_about 80 = .ok (.iconst 0, 1) := by decide +kernel
theorem dX9_about_81 : decode cX9_about 81 = .ok (.iaload, 1) := by decide +kernel
theorem dX9_about_82 : decode cX9_about 82 = .ok (.ireturn, 1) := by decide +kernel
theorem dX9_about_83 : decode cX9_about 83 = .ok (.aload_n 0, 1) := by decide +kernel
theorem dX9_about_84 : decode cX9_about 84 = .ok (.getfield 22, 3) := by decide +kernel
theorem dX9_about_87 : decode cX9_about 87 = .ok (.iconst 0, 1) := by decide +kernel
theorem dX9_about_88 : decode cX9_about 88 = .ok (.iaload, 1) := by decide +kernel
theorem dX9_about_89 : decode cX9_about 89 = .ok (.ireturn, 1) := by decide +kernel
theorem dX9_about_90 : decode cX9_about 90 = .ok (.iconst 0, 1) := by decide +kernel
theorem dX9_about_91 : decode cX9_about 91 = .ok (.istore_n 3, 1) := by decide +kernel
theorem dX9_about_92 : decode cX9_about 92 = .ok (.iload_n 3, 1) := by decide +kernel
theorem dX9_about_93 : decode cX9_about 93 = .ok (.bipush 10, 2) := by decide +kernel
theorem dX9_about_95 : decode cX9_about 95 = .ok (.if_icmp .ge 18, 3) := by decide +kernel
theorem dX9_about_98 : decode cX9_about 98 = .ok (.iload_n 2, 1) := by decide +kernel
theorem dX9_about_99 : decode cX9_about 99 = .ok (.aload_n 0, 1) := by decide +kernel
theorem dX9_about_100 : decode cX9_about 100 = .ok (.getfield 16, 3) := by decide +kernel
theorem dX9_about_103 : decode cX9_about 103 = .ok (.iload_n 3, 1) := by decide +kernel
theorem dX9_about_104 : decode cX9_about 104 = .ok (.iaload, 1) := by decide +kernel
theorem dX9_about_105 : decode cX9_about 105 = .ok (.iadd, 1) := by decide +kernel
theorem dX9_about_106 : decode cX9_about 106 = .ok (.istore_n 2, 1) := by decide +kernel
theorem dX9_about_107 : decode cX9_about 107 = .ok (.iinc 3 1, 3) := by decide +kernel
theorem dX9_about_110 : decode cX9_about 110 = .ok (.goto (-18), 3) := by decide +kernel
theorem dX9_about_113 : decode cX9_about 113 = .ok (.iload_n 2, 1) := by decide +kernel
theorem dX9_about_114 : decode cX9_about 114 = .ok (.ireturn, 1) := by decide +kernel
theorem dX9_about_115 : decode cX9_about 115 = .ok (.aload_n 0, 1) := by decide +kernel
theorem dX9_about_116 : decode cX9_about 116 = .ok (.getfield 247, 3) := by decide +kernel
theorem dX9_about_119 : decode cX9_about 119 = .ok (.ireturn, 1) := by decide +kernel
theorem dX9_about_120 : decode cX9_about 120 = .ok (.aload_n 0, 1) := by decide +kernel
theorem dX9_about_121 : decode cX9_about 121 = .ok (.getfield 148, 3) := by decide +kernel
theorem dX9_about_124 : decode cX9_about 124 = .ok (.ireturn, 1) := by decide +kernel
theorem dX9_about_125 : decode cX9_about 125 = .ok (.aload_n 0, 1) := by decide +kernel
theorem dX9_about_126 : decode cX9_about 126 = .ok (.invokevirtual 269, 3) := by decide +kernel
theorem dX9_about_129 : decode cX9_about 129 = .ok (.ireturn, 1) := by decide +kernel
theorem dX9_about_130 : decode cX9_about 130 = .ok (.iconst (-1), 1) := by decide +kernel
theorem dX9_about_131 : decode cX9_about 131 = .ok (.ireturn, 1) := by decide +kernel
theorem dX9_arc_0 : decode cX9_arc 0 = .ok (.aload_n 0, 1) := by decide +kernel
theorem dX9_arc_1 : decode cX9_arc 1 = .ok (.iconst 0, 1) := by decide +kernel
theorem dX9_arc_2 : decode cX9_arc 2 = .ok (.putfield 133, 3) := by decide +kernel
theorem dX9_arc_5 : decode cX9_arc 5 = .ok (.aload_n 0, 1) := by decide +kernel
theorem dX9_arc_6 : decode cX9_arc 6 = .ok (.iload_n 1, 1) := by decide +kernel
theorem dX9_arc_7 : decode cX9_arc 7 = .ok (.invokevirtual 272, 3) := by decide +kernel
theorem dX9_arc_10 : decode cX9_arc 10 = .ok (.ifCond .eq 20, 3) := by decide +kernel
theorem dX9_arc_13 : decode cX9_arc 13 = .ok (.aload_n 0, 1) := by decide +kernel
theorem dX9_arc_14 : decode cX9_arc 14 = .ok (.iload_n 2, 1) := by decide +kernel
theorem dX9_arc_15 : decode cX9_arc 15 = .ok (.invokevirtual 275, 3) := by decide +kernel
theorem dX9_arc_18 : decode cX9_arc 18 = .ok (.ifCond .eq 12, 3) := by decide +kernel
theorem dX9_arc_21 : decode cX9_arc 21 = .ok (.iload_n 3, 1) := by decide +kernel
theorem dX9_arc_22 : decode cX9_arc 22 = .ok (.iconst 0, 1) := by decide +kernel
theorem dX9_arc_23 : decode cX9_arc 23 = .ok (.iconst 2, 1) := by decide +kernel
theorem dX9_arc_24 : decode cX9_arc 24 = .ok (.invokestatic 136, 3) := by decide +kernel
theorem dX9_arc_27 : decode cX9_arc 27 = .ok (.ifCond .ne 7, 3) := by decide +kernel
theorem dX9_arc_30 : decode cX9_arc 30 = .ok (.ldc_w 278, 3) := by decide +kernel
theorem dX9_arc_33 : decode cX9_arc 33 = .ok (.ireturn, 1) := by decide +kernel
theorem dX9_arc_34 : decode cX9_arc 34 = .ok (.iload_n 3, 1) := by decide +kernel
theorem dX9_arc_35 : decode cX9_arc 35 = .ok (.ifCond .ne 18, 3) := by decide +kernel
theorem dX9_arc_38 : decode cX9_arc 38 = .ok (.aload_n 0, 1) := by decide +kernel
theorem dX9_arc_39 : decode cX9_arc 39 = .ok (.getfield 7, 3) := by decide +kernel
theorem dX9_arc_42 : decode cX9_arc 42 = .ok (.aload_n 0, 1) := by decide +kernel
theorem dX9_arc_43 : decode cX9_arc 43 = .ok (.iconst 0, 1) := by decide +kernel
theorem dX9_arc_44 : decode cX9_arc 44 = .ok (.iload_n 1, 1) := by decide +kernel
theorem dX9_arc_45 : decode cX9_arc 45 = .ok (.iload_n 2, 1) := by decide +kernel
theorem dX9_arc_46 : decode cX9_arc 46 = .ok (.invokevirtual 144, 3) := by decide +kernel
theorem dX9_arc_49 : decode cX9_arc 49 = .ok (.iaload, 1) := by decide +kernel
theorem dX9_arc_50 : decode cX9_arc 50 = .ok (.goto 30, 3) := by decide +kernel
theorem dX9_arc_53 : decode cX9_arc 53 = .ok (.iload_n 3, 1) := by decide +kernel
theorem dX9_arc_54 : decode cX9_arc 54 = .ok (.iconst 1, 1) := by decide +kernel
theorem dX9_arc_55 : decode cX9_arc 55 = .ok (.if_icmp .ne 18, 3) := by decide +kernel
theorem dX9_arc_58 : decode cX9_arc 58 = .ok (.aload_n 0, 1) := by decide +kernel
theorem dX9_arc_59 : decode cX9_arc 59 = .ok (.getfield 13, 3) := by decide +kernel
theorem dX9_arc_62 : decode cX9_arc 62 = .ok (.aload_n 0, 1) := by decide +kernel
theorem dX9_arc_63 : decode cX9_arc 63 = .ok (.iconst 0, 1) := by decide +kernel
theorem dX9_arc_64 : decode cX9_arc 64 = .ok (.iload_n 1, 1) := by decide +kernel
theorem dX9_arc_65 : decode cX9_arc 65 = .ok (.iload_n 2, 1) := by decide +kernel
theorem dX9_arc_66 : decode cX9_arc 66 = .ok (.invokevirtual 144, 3) := by decide +kernel
theorem dX9_arc_69 : decode cX9_arc 69 = .ok (.iaload, 1) := by decide +kernel
theorem dX9_arc_70 : decode cX9_arc 70 = .ok (.goto 10, 3) := by decide +kernel
theorem dX9_arc_73 : decode cX9_arc 73 = .ok (.aload_n 0, 1) := by decide +kernel
theorem dX9_arc_74 : decode cX9_arc 74 = .ok (.iconst 0, 1) := by decide +kernel
theorem dX9_arc_75 : decode cX9_arc 75 = .ok (.iload_n 1, 1) := by decide +kernel
theorem dX9_arc_76 : decode cX9_arc 76 = .ok (.iload_n 2, 1) := by decide +kernel
theorem dX9_arc_77 : decode cX9_arc 77 = .ok (.invokevirtual 279, 3) := by decide +kernel
theorem dX9_arc_80 : decode cX9_arc 80 = .ok (.ireturn, 1) := by decide +kernel
theorem dX9_tokens_0 : decode cX9_tokens 0 = .ok (.aload_n 0, 1) := by decide +kernel
theorem dX9_tokens_1 : decode cX9_tokens 1 = .ok (.iconst 0, 1) := by decide +kernel
theorem dX9_tokens_2 : decode cX9_tokens 2 = .ok (.putfield 133, 3) := by decide +kernel
theorem dX9_tokens_5 : decode cX9_tokens 5 = .ok (.aload_n 0, 1) := by decide +kernel
theorem dX9_tokens_6 : decode cX9_tokens 6 = .ok (.iload_n 1, 1) := by decide +kernel
theorem dX9_tokens_7 : decode cX9_tokens 7 = .ok (.invokevirtual 275, 3) := by decide +kernel
theorem dX9_tokens_10 : decode cX9_tokens 10 = .ok (.ifCond .eq 12, 3) := by decide +kernel
theorem dX9_tokens_13 : decode cX9_tokens 13 = .ok (.aload_n 0, 1) := by decide +kernel
theorem dX9_tokens_14 : decode cX9_tokens 14 = .ok (.getfield 16, 3) := by decide +kernel
theorem dX9_tokens_17 : decode cX9_tokens 17 = .ok (.iload_n 1, 1) := by decide +kernel
theorem dX9_tokens_18 : decode cX9_tokens 18 = .ok (.iaload, 1) := by decide +kernel
theorem dX9_tokens_19 : decode cX9_tokens 19 = .ok (.goto 4, 3) := by decide +kernel
theorem dX9_tokens_22 : decode cX9_tokens 22 = .ok (.iconst (-1), 1) := by decide +kernel
theorem dX9_tokens_23 : decode cX9_tokens 23 = .ok (.ireturn, 1) := by decide +kernel
theorem dX9_isOne_0 : decode cX9_isOne 0 = .ok (.iconst 0, 1) := by decide +kernel
theorem dX9_isOne_1 : decode cX9_isOne 1 = .ok (.istore_n 3, 1) := by decide +kernel
theorem dX9_isOne_2 : decode cX9_isOne 2 = .ok (.iconst 0, 1) := by decide +kernel
theorem dX9_isOne_3 : decode cX9_isOne 3 = .ok (.istore 4, 2) := by decide +kernel
theorem dX9_isOne_5 : decode cX9_isOne 5 = .ok (.iload 4, 2) := by decide +kernel
theorem dX9_isOne_7 : decode cX9_isOne 7 = .ok (.bipush 10, 2) := by decide +kernel
theorem dX9_isOne_9 : decode cX9_isOne 9 = .ok (.if_icmp .ge 45, 3) := by decide +kernel
theorem dX9_isOne_12 : decode cX9_isOne 12 = .ok (.iload_n 3, 1) := by decide +kernel
theorem dX9_isOne_13 : decode cX9_isOne 13 = .ok (.iload_n 2, 1) := by decide +kernel
theorem dX9_isOne_14 : decode cX9_isOne 14 = .ok (.ifCond .eq 19, 3) := by decide +kernel
theorem dX9_isOne_17 : decode cX9_isOne 17 = .ok (.aload_n 0, 1) := by decide +kernel
theorem dX9_isOne_18 : decode cX9_isOne 18 = .ok (.getfield 7, 3) := by decide +kernel
theorem dX9_isOne_21 : decode cX9_isOne 21 = .ok (.aload_n 0, 1) := by decide +kernel
theorem dX9_isOne_22 : decode cX9_isOne 22 = .ok (.iconst 0, 1) := by decide +kernel
theorem dX9_isOne_23 : decode cX9_isOne 23 = .ok (.iload_n 1, 1) := by decide +kernel
theorem dX9_isOne_24 : decode cX9_isOne 24 = .ok (.iload 4, 2) := by decide +kernel
theorem dX9_isOne_26 : decode cX9_isOne 26 = .ok (.invokevirtual 144, 3) := by decide +kernel
theorem dX9_isOne_29 : decode cX9_isOne 29 = .ok (.iaload, 1) := by decide +kernel
theorem dX9_isOne_30 : decode cX9_isOne 30 = .ok (.goto 16, 3) := by decide +kernel
theorem dX9_isOne_33 : decode cX9_isOne 33 = .ok (.aload_n 0, 1) := by decide +kernel
theorem dX9_isOne_34 : decode cX9_isOne 34 = .ok (.getfield 13, 3) := by decide +kernel
theorem dX9_isOne_37 : decode cX9_isOne 37 = .ok (.aload_n 0, 1) := by decide +kernel
theorem dX9_isOne_38 : decode cX9_isOne 38 = .ok (.iconst 0, 1) := by decide +kernel
theorem dX9_isOne_39 : decode cX9_isOne 39 = .ok (.iload_n 1, 1) := by decide +kernel
theorem dX9_isOne_40 : decode cX9_isOne 40 = .ok (.iload 4, 2) := by decide +kernel
theorem dX9_isOne_42 : decode cX9_isOne 42 = .ok (.invokevirtual 144, 3) := by decide +kernel
theorem dX9_isOne_45 : decode cX9_isOne 45 = .ok (.iaload, 1) := by decide +kernel
theorem dX9_isOne_46 : decode cX9_isOne 46 = .ok (.iadd, 1) := by decide +kernel
theorem dX9_isOne_47 : decode cX9_isOne 47 = .ok (.istore_n 3, 1) := by decide +kernel
theorem dX9_isOne_48 : decode cX9_isOne 48 = .ok (.iinc 4 1, 3) := by decide +kernel
theorem dX9_isOne_51 : decode cX9_isOne 51 = .ok (.goto (-46), 3) := by decide +kernel
theorem dX9_isOne_54 : decode cX9_isOne 54 = .ok (.iload_n 3, 1) := by decide +kernel
theorem dX9_isOne_55 : decode cX9_isOne 55 = .ok (.iconst 1, 1) := by decide +kernel
theorem dX9_isOne_56 : decode cX9_isOne 56 = .ok (.if_icmp .ne 7, 3) := by decide +kernel
theorem dX9_isOne_59 : decode cX9_isOne 59 = .ok (.iconst 1, 1) := by decide +kernel
theorem dX9_isOne_60 : decode cX9_isOne 60 = .ok (.goto 4, 3) := by decide +kernel
theorem dX9_isOne_63 : decode cX9_isOne 63 = .ok (.iconst 0, 1) := by decide +kernel
theorem dX9_isOne_64 : decode cX9_isOne 64 = .ok (.ireturn, 1) := by decide +kernel
theorem dX9_isOneAt_0 : decode cX9_isOneAt 0 = .ok (.iconst 0, 1) := by decide +kernel
theorem dX9_isOneAt_1 : decode cX9_isOneAt 1 = .ok (.istore_n 3, 1) := by decide +kernel
theorem dX9_isOneAt_2 : decode cX9_isOneAt 2 = .ok (.iconst 0, 1) := by decide +kernel
theorem dX9_isOneAt_3 : decode cX9_isOneAt 3 = .ok (.istore 4, 2) := by decide +kernel
theorem dX9_isOneAt_5 : decode cX9_isOneAt 5 = .ok (.iload 4, 2) := by decide +kernel
theorem dX9_isOneAt_7 : decode cX9_isOneAt 7 = .ok (.bipush 8, 2) := by decide +kernel
theorem dX9_isOneAt_9 : decode cX9_isOneAt 9 = .ok (.if_icmp .ge 45, 3) := by decide +kernel
theorem dX9_isOneAt_12 : decode cX9_isOneAt 12 = .ok (.iload_n 3, 1) := by decide +kernel
theorem dX9_isOneAt_13 : decode cX9_isOneAt 13 = .ok (.iload_n 2, 1) := by decide +kernel
theorem dX9_isOneAt_14 : decode cX9_isOneAt 14 = .ok (.ifCond .eq 19, 3) := by decide +kernel
theorem dX9_isOneAt_17 : decode cX9_isOneAt 17 = .ok (.aload_n 0, 1) := by decide +kernel
theorem dX9_isOneAt_18 : decode cX9_isOneAt 18 = .ok (.getfield 7, 3) := by decide +kernel
theorem dX9_isOneAt_21 : decode cX9_isOneAt 21 = .ok (.aload_n 0, 1) := by decide +kernel
theorem dX9_isOneAt_22 : decode cX9_isOneAt 22 = .ok (.iconst 0, 1) := by decide +kernel
theorem dX9_isOneAt_23 : decode cX9_isOneAt 23 = .ok (.iload 4, 2) := by decide +kernel
theorem dX9_isOneAt_25 : decode cX9_isOneAt 25 = .ok (.iload_n 1, 1) := by decide +kernel
theorem dX9_isOneAt_26 : decode cX9_isOneAt 26 = .ok (.invokevirtual 144, 3) := by decide +kernel
theorem dX9_isOneAt_29 : decode cX9_isOneAt 29 = .ok (.iaload, 1) := by decide +kernel
theorem dX9_isOneAt_30 : decode cX9_isOneAt 30 = .ok (.goto 16, 3) := by decide +kernel
theorem dX9_isOneAt_33 : decode cX9_isOneAt 33 = .ok (.aload_n 0, 1) := by decide +kernel
theorem dX9_isOneAt_34 : decode cX9_isOneAt 34 = .ok (.getfield 13, 3) := by decide +kernel
theorem dX9_isOneAt_37 : decode cX9_isOneAt 37 = .ok (.aload_n 0, 1) := by decide +kernel
theorem dX9_isOneAt_38 : decode cX9_isOneAt 38 = .ok (.iconst 0, 1) := by decide +kernel
theorem dX9_isOneAt_39 : decode cX9_isOneAt 39 = .ok (.iload 4, 2) := by decide +kernel
theorem dX9_isOneAt_41 : decode cX9_isOneAt 41 = .ok (.iload_n 1, 1) := by decide +kernel
theorem dX9_isOneAt_42 : decode cX9_isOneAt 42 = .ok (.invokevirtual 144, 3) := by decide +kernel
theorem dX9_isOneAt_45 : decode cX9_isOneAt 45 = .ok (.iaload, 1) := by decide +kernel
theorem dX9_isOneAt_46 : decode cX9_isOneAt 46 = .ok (.iadd, 1) := by decide +kernel
theorem dX9_isOneAt_47 : decode cX9_isOneAt 47 = .ok (.istore_n 3, 1) := by decide +kernel
theorem dX9_isOneAt_48 : decode cX9_isOneAt 48 = .ok (.iinc 4 1, 3) := by decide +kernel
theorem dX9_isOneAt_51 : decode cX9_isOneAt 51 = .ok (.goto (-46), 3) := by decide +kernel
theorem dX9_isOneAt_54 : decode cX9_isOneAt 54 = .ok (.iload_n 3, 1) := by decide +kernel
theorem dX9_isOneAt_55 : decode cX9_isOneAt 55 = .ok (.iconst 1, 1) := by decide +kernel
theorem dX9_isOneAt_56 : decode cX9_isOneAt 56 = .ok (.if_icmp .ne 7, 3) := by decide +kernel
theorem dX9_isOneAt_59 : decode cX9_isOneAt 59 = .ok (.iconst 1, 1) := by decide +kernel
theorem dX9_isOneAt_60 : decode cX9_isOneAt 60 = .ok (.goto 4, 3) := by decide +kernel
theorem dX9_isOneAt_63 : decode cX9_isOneAt 63 = .ok (.iconst 0, 1) := by decide +kernel
theorem dX9_isOneAt_64 : decode cX9_isOneAt 64 = .ok (.ireturn, 1) := by decide +kernel
theorem dX9_isFair_0 : decode cX9_isFair 0 = .ok (.iconst 0, 1) := by decide +kernel
theorem dX9_isFair_1 : decode cX9_isFair 1 = .ok (.istore_n 3, 1) := by decide +kernel
theorem dX9_isFair_2 : decode cX9_isFair 2 = .ok (.iconst 1, 1) := by decide +kernel
theorem dX9_isFair_3 : decode cX9_isFair 3 = .ok (.istore 4, 2) := by decide +kernel
theorem dX9_isFair_5 : decode cX9_isFair 5 = .ok (.iconst 0, 1) := by decide +kernel
theorem dX9_isFair_6 : decode cX9_isFair 6 = .ok (.istore 5, 2) := by decide +kernel
theorem dX9_isFair_8 : decode cX9_isFair 8 = .ok (.iload 5, 2) := by decide +kernel
theorem dX9_isFair_10 : decode cX9_isFair 10 = .ok (.bipush 10, 2) := by decide +kernel
theorem dX9_isFair_12 : decode cX9_isFair 12 = .ok (.if_icmp .ge 74, 3) := by decide +kernel
theorem dX9_isFair_15 : decode cX9_isFair 15 = .ok (.aload_n 0, 1) := by decide +kernel
theorem dX9_isFair_16 : decode cX9_isFair 16 = .ok (.getfield 7, 3) := by decide +kernel
theorem dX9_isFair_19 : decode cX9_isFair 19 = .ok (.aload_n 0, 1) := by decide +kernel
theorem dX9_isFair_20 : decode cX9_isFair 20 = .ok (.iconst 0, 1) := by decide +kernel
theorem dX9_isFair_21 : decode cX9_isFair 21 = .ok (.iload_n 1, 1) := by decide +kernel
theorem dX9_isFair_22 : decode cX9_isFair 22 = .ok (.iload 5, 2) := by decide +kernel
theorem dX9_isFair_24 : decode cX9_isFair 24 = .ok (.invokevirtual 144, 3) := by decide +kernel
theorem dX9_isFair_27 : decode cX9_isFair 27 = .ok (.iaload, 1) := by decide +kernel
theorem dX9_isFair_28 : decode cX9_isFair 28 = .ok (.istore 6, 2) := by decide +kernel
theorem dX9_isFair_30 : decode cX9_isFair 30 = .ok (.aload_n 0, 1) := by decide +kernel
theorem dX9_isFair_31 : decode cX9_isFair 31 = .ok (.getfield 7, 3) := by decide +kernel
theorem dX9_isFair_34 : decode cX9_isFair 34 = .ok (.aload_n 0, 1) := by decide +kernel
theorem dX9_isFair_35 : decode cX9_isFair 35 = .ok (.iconst 0, 1) := by decide +kernel
theorem dX9_isFair_36 : decode cX9_isFair 36 = .ok (.iload_n 2, 1) := by decide +kernel
theorem dX9_isFair_37 : decode cX9_isFair 37 = .ok (.iload 5, 2) := by decide +kernel
theorem dX9_isFair_39 : decode cX9_isFair 39 = .ok (.invokevirtual 144, 3) := by decide +kernel
theorem dX9_isFair_42 : decode cX9_isFair 42 = .ok (.iaload, 1) := by decide +kernel
theorem dX9_isFair_43 : decode cX9_isFair 43 = .ok (.istore 7, 2) := by decide +kernel
theorem dX9_isFair_45 : decode cX9_isFair 45 = .ok (.iload_n 3, 1) := by decide +kernel
theorem dX9_isFair_46 : decode cX9_isFair 46 = .ok (.iload 6, 2) := by decide +kernel
theorem dX9_isFair_48 : decode cX9_isFair 48 = .ok (.ifCond .le 12, 3) := by decide +kernel
theorem dX9_isFair_51 : decode cX9_isFair 51 = .ok (.iload 7, 2) := by decide +kernel
theorem dX9_isFair_53 : decode cX9_isFair 53 = .ok (.ifCond .le 7, 3) := by decide +kernel
theorem dX9_isFair_56 : decode cX9_isFair 56 = .ok (.iconst 1, 1) := by decide +kernel
theorem dX9_isFair_57 : decode cX9_isFair 57 = .ok (.goto 4, 3) := by decide +kernel
theorem dX9_isFair_60 : decode cX9_isFair 60 = .ok (.iconst 0, 1) := by decide +kernel
theorem dX9_isFair_61 : decode cX9_isFair 61 = .ok (.ior, 1) := by decide +kernel
theorem dX9_isFair_62 : decode cX9_isFair 62 = .ok (.istore_n 3, 1) := by decide +kernel
theorem dX9_isFair_63 : decode cX9_isFair 63 = .ok (.iload 4, 2) := by decide +kernel
theorem dX9_isFair_65 : decode cX9_isFair 65 = .ok (.iload 6, 2) := by decide +kernel
theorem dX9_isFair_67 : decode cX9_isFair 67 = .ok (.iload 7, 2) := by decide +kernel
theorem dX9_isFair_69 : decode cX9_isFair 69 = .ok (.if_icmp .ne 7, 3) := by decide +kernel
theorem dX9_isFair_72 : decode cX9_isFair 72 = .ok (.iconst 1, 1) := by decide +kernel
theorem dX9_isFair_73 : decode cX9_isFair 73 = .ok (.goto 4, 3) := by decide +kernel
theorem dX9_isFair_76 : decode cX9_isFair 76 = .ok (.iconst 0, 1) := by decide +kernel
theorem dX9_isFair_77 : decode cX9_isFair 77 = .ok (.iand, 1) := by decide +kernel
theorem dX9_isFair_78 : decode cX9_isFair 78 = .ok (.istore 4, 2) := by decide +kernel
theorem dX9_isFair_80 : decode cX9_isFair 80 = .ok (.iinc 5 1, 3) := by decide +kernel
theorem dX9_isFair_83 : decode cX9_isFair 83 = .ok (.goto (-75), 3) := by decide +kernel
theorem dX9_isFair_86 : decode cX9_isFair 86 = .ok (.iload_n 3, 1) := by decide +kernel
theorem dX9_isFair_87 : decode cX9_isFair 87 = .ok (.ifCond .eq 8, 3) := by decide +kernel
theorem dX9_isFair_90 : decode cX9_isFair 90 = .ok (.iload 4, 2) := by decide +kernel
theorem dX9_isFair_92 : decode cX9_isFair 92 = .ok (.ifCond .eq 7, 3) := by decide +kernel
theorem dX9_isFair_95 : decode cX9_isFair 95 = .ok (.iconst 1, 1) := by decide +kernel
theorem dX9_isFair_96 : decode cX9_isFair 96 = .ok (.goto 4, 3) := by decide +kernel
theorem dX9_isFair_99 : decode cX9_isFair 99 = .ok (.iconst 0, 1) := by decide +kernel
theorem dX9_isFair_100 : decode cX9_isFair 100 = .ok (.ireturn, 1) := by decide +kernel
theorem dX9_kind_0 : decode cX9_kind 0 = .ok (.aload_n 0, 1) := by decide +kernel
theorem dX9_kind_1 : decode cX9_kind 1 = .ok (.iconst 0, 1) := by decide +kernel
theorem dX9_kind_2 : decode cX9_kind 2 = .ok (.putfield 133, 3) := by decide +kernel
theorem dX9_kind_5 : decode cX9_kind 5 = .ok (.iload_n 1, 1) := by decide +kernel
theorem dX9_kind_6 : decode cX9_kind 6 = .ok (.iconst 0, 1) := by decide +kernel
theorem dX9_kind_7 : decode cX9_kind 7 = .ok (.iconst 2, 1) := by decide +kernel
theorem dX9_kind_8 : decode cX9_kind 8 = .ok (.invokestatic 136, 3) := by decide +kernel
theorem dX9_kind_11 : decode cX9_kind 11 = .ok (.ifCond .ne 5, 3) := by decide +kernel
theorem dX9_kind_14 : decode cX9_kind 14 = .ok (.iconst (-1), 1) := by decide +kernel
theorem dX9_kind_15 : decode cX9_kind 15 = .ok (.ireturn, 1) := by decide +kernel
theorem dX9_kind_16 : decode cX9_kind 16 = .ok (.iconst 1, 1) := by decide +kernel
theorem dX9_kind_17 : decode cX9_kind 17 = .ok (.istore_n 2, 1) := by decide +kernel
theorem dX9_kind_18 : decode cX9_kind 18 = .ok (.iconst 0, 1) := by decide +kernel
theorem dX9_kind_19 : decode cX9_kind 19 = .ok (.istore_n 3, 1) := by decide +kernel
theorem dX9_kind_20 : decode cX9_kind 20 = .ok (.iload_n 3, 1) := by decide +kernel
theorem dX9_kind_21 : decode cX9_kind 21 = .ok (.bipush 8, 2) := by decide +kernel
theorem dX9_kind_23 : decode cX9_kind 23 = .ok (.if_icmp .ge 97, 3) := by decide +kernel
theorem dX9_kind_26 : decode cX9_kind 26 = .ok (.aload_n 0, 1) := by decide +kernel
theorem dX9_kind_27 : decode cX9_kind 27 = .ok (.iload_n 3, 1) := by decide +kernel
theorem dX9_kind_28 : decode cX9_kind 28 = .ok (.invokevirtual 272, 3) := by decide +kernel
theorem dX9_kind_31 : decode cX9_kind 31 = .ok (.ifCond .ne 6, 3) := by decide +kernel
theorem dX9_kind_34 : decode cX9_kind 34 = .ok (.goto 80, 3) := by decide +kernel
theorem dX9_kind_37 : decode cX9_kind 37 = .ok (.iload_n 2, 1) := by decide +kernel
theorem dX9_kind_38 : decode cX9_kind 38 = .ok (.iload_n 1, 1) := by decide +kernel
theorem dX9_kind_39 : decode cX9_kind 39 = .ok (.ifCond .ne 21, 3) := by decide +kernel
theorem dX9_kind_42 : decode cX9_kind 42 = .ok (.aload_n 0, 1) := by decide +kernel
theorem dX9_kind_43 : decode cX9_kind 43 = .ok (.iload_n 3, 1) := by decide +kernel
theorem dX9_kind_44 : decode cX9_kind 44 = .ok (.iconst 1, 1) := by decide +kernel
theorem dX9_kind_45 : decode cX9_kind 45 = .ok (.invokevirtual 282, 3) := by decide +kernel
theorem dX9_kind_48 : decode cX9_kind 48 = .ok (.ifCond .eq 16, 3) := by decide +kernel
theorem dX9_kind_51 : decode cX9_kind 51 = .ok (.aload_n 0, 1) := by decide +kernel
theorem dX9_kind_52 : decode cX9_kind 52 = .ok (.iload_n 3, 1) := by decide +kernel
theorem dX9_kind_53 : decode cX9_kind 53 = .ok (.iconst 0, 1) := by decide +kernel
theorem dX9_kind_54 : decode cX9_kind 54 = .ok (.invokevirtual 282, 3) := by decide +kernel
theorem dX9_kind_57 : decode cX9_kind 57 = .ok (.ifCond .eq 7, 3) := by decide +kernel
theorem dX9_kind_60 : decode cX9_kind 60 = .ok (.iconst 1, 1) := by decide +kernel
theorem dX9_kind_61 : decode cX9_kind 61 = .ok (.goto 4, 3) := by decide +kernel
theorem dX9_kind_64 : decode cX9_kind 64 = .ok (.iconst 0, 1) := by decide +kernel
theorem dX9_kind_65 : decode cX9_kind 65 = .ok (.iand, 1) := by decide +kernel
theorem dX9_kind_66 : decode cX9_kind 66 = .ok (.istore_n 2, 1) := by decide +kernel
theorem dX9_kind_67 : decode cX9_kind 67 = .ok (.iconst 0, 1) := by decide +kernel
theorem dX9_kind_68 : decode cX9_kind 68 = .ok (.istore 4, 2) := by decide +kernel
theorem dX9_kind_70 : decode cX9_kind 70 = .ok (.iload 4, 2) := by decide +kernel
theorem dX9_kind_72 : decode cX9_kind 72 = .ok (.iload_n 3, 1) := by decide +kernel
theorem dX9_kind_73 : decode cX9_kind 73 = .ok (.if_icmp .ge 41, 3) := by decide +kernel
theorem dX9_kind_76 : decode cX9_kind 76 = .ok (.iload_n 2, 1) := by decide +kernel
theorem dX9_kind_77 : decode cX9_kind 77 = .ok (.iload_n 1, 1) := by decide +kernel
theorem dX9_kind_78 : decode cX9_kind 78 = .ok (.iconst 2, 1) := by decide +kernel
theorem dX9_kind_79 : decode cX9_kind 79 = .ok (.if_icmp .ne 22, 3) := by decide +kernel
theorem dX9_kind_82 : decode cX9_kind 82 = .ok (.aload_n 0, 1) := by decide +kernel
theorem dX9_kind_83 : decode cX9_kind 83 = .ok (.iload 4, 2) := by decide +kernel
theorem dX9_kind_85 : decode cX9_kind 85 = .ok (.invokevirtual 272, 3) := by decide +kernel
theorem dX9_kind_88 : decode cX9_kind 88 = .ok (.ifCond .eq 13, 3) := by decide +kernel
theorem dX9_kind_91 : decode cX9_kind 91 = .ok (.aload_n 0, 1) := by decide +kernel
theorem dX9_kind_92 : decode cX9_kind 92 = .ok (.iload_n 3, 1) := by decide +kernel
theorem dX9_kind_93 : decode cX9_kind 93 = .ok (.iload 4, 2) := by decide +kernel
theorem dX9_kind_95 : decode cX9_kind 95 = .ok (.invokevirtual 286, 3) := by decide +kernel
theorem dX9_kind_98 : decode cX9_kind 98 = .ok (.ifCond .eq 7, 3) := by decide +kernel
theorem dX9_kind_101 : decode cX9_kind 101 = .ok (.iconst 1, 1) := by decide +kernel
theorem dX9_kind_102 : decode cX9_kind 102 = .ok (.goto 4, 3) := by decide +kernel
theorem dX9_kind_105 : decode cX9_kind 105 = .ok (.iconst 0, 1) := by decide +kernel
theorem dX9_kind_106 : decode cX9_kind 106 = .ok (.iand, 1) := by decide +kernel
theorem dX9_kind_107 : decode cX9_kind 107 = .ok (.istore_n 2, 1) := by decide +kernel
theorem dX9_kind_108 : decode cX9_kind 108 = .ok (.iinc 4 1, 3) := by decide +kernel
theorem dX9_kind_111 : decode cX9_kind 111 = .ok (.goto (-41), 3) := by decide +kernel
theorem dX9_kind_114 : decode cX9_kind 114 = .ok (.iinc 3 1, 3) := by decide +kernel
theorem dX9_kind_117 : decode cX9_kind 117 = .ok (.goto (-97), 3) := by decide +kernel
theorem dX9_kind_120 : decode cX9_kind 120 = .ok (.iconst 0, 1) := by decide +kernel
theorem dX9_kind_121 : decode cX9_kind 121 = .ok (.istore_n 3, 1) := by decide +kernel
theorem dX9_kind_122 : decode cX9_kind 122 = .ok (.iload_n 3, 1) := by decide +kernel
theorem dX9_kind_123 : decode cX9_kind 123 = .ok (.bipush 10, 2) := by decide +kernel
theorem dX9_kind_125 : decode cX9_kind 125 = .ok (.if_icmp .ge 48, 3) := by decide +kernel
theorem dX9_kind_128 : decode cX9_kind 128 = .ok (.iload_n 2, 1) := by decide +kernel
theorem dX9_kind_129 : decode cX9_kind 129 = .ok (.iload_n 1, 1) := by decide +kernel
theorem dX9_kind_130 : decode cX9_kind 130 = .ok (.iconst 1, 1) := by decide +kernel
theorem dX9_kind_131 : decode cX9_kind 131 = .ok (.if_icmp .ne 29, 3) := by decide +kernel
theorem dX9_kind_134 : decode cX9_kind 134 = .ok (.aload_n 0, 1) := by decide +kernel
theorem dX9_kind_135 : decode cX9_kind 135 = .ok (.iload_n 3, 1) := by decide +kernel
theorem dX9_kind_136 : decode cX9_kind 136 = .ok (.invokevirtual 275, 3) := by decide +kernel
theorem dX9_kind_139 : decode cX9_kind 139 = .ok (.ifCond .eq 21, 3) := by decide +kernel
theorem dX9_kind_142 : decode cX9_kind 142 = .ok (.aload_n 0, 1) := by decide +kernel
theorem dX9_kind_143 : decode cX9_kind 143 = .ok (.iload_n 3, 1) := by decide +kernel
theorem dX9_kind_144 : decode cX9_kind 144 = .ok (.iconst 1, 1) := by decide +kernel
theorem dX9_kind_145 : decode cX9_kind 145 = .ok (.invokevirtual 289, 3) := by decide +kernel
theorem dX9_kind_148 : decode cX9_kind 148 = .ok (.ifCond .eq 16, 3) := by decide +kernel
theorem dX9_kind_151 : decode cX9_kind 151 = .ok (.aload_n 0, 1) := by decide +kernel
theorem dX9_kind_152 : decode cX9_kind 152 = .ok (.iload_n 3, 1) := by decide +kernel
theorem dX9_kind_153 : decode cX9_kind 153 = .ok (.iconst 0, 1) := by decide +kernel
theorem dX9_kind_154 : decode cX9_kind 154 = .ok (.invokevirtual 289, 3) := by decide +kernel
theorem dX9_kind_157 : decode cX9_kind 157 = .ok (.ifCond .eq 7, 3) := by decide +kernel
theorem dX9_kind_160 : decode cX9_kind 160 = .ok (.iconst 1, 1) := by decide +kernel
theorem dX9_kind_161 : decode cX9_kind 161 = .ok (.goto 4, 3) := by decide +kernel
theorem dX9_kind_164 : decode cX9_kind 164 = .ok (.iconst 0, 1) := by decide +kernel
theorem dX9_kind_165 : decode cX9_kind 165 = .ok (.iand, 1) := by decide +kernel
theorem dX9_kind_166 : decode cX9_kind 166 = .ok (.istore_n 2, 1) := by decide +kernel
theorem dX9_kind_167 : decode cX9_kind 167 = .ok (.iinc 3 1, 3) := by decide +kernel
theorem dX9_kind_170 : decode cX9_kind 170 = .ok (.goto (-48), 3) := by decide +kernel
theorem dX9_kind_173 : decode cX9_kind 173 = .ok (.iload_n 2, 1) := by decide +kernel
theorem dX9_kind_174 : decode cX9_kind 174 = .ok (.ifCond .eq 7, 3) := by decide +kernel
theorem dX9_kind_177 : decode cX9_kind 177 = .ok (.iconst 1, 1) := by decide +kernel
theorem dX9_kind_178 : decode cX9_kind 178 = .ok (.goto 4, 3) := by decide +kernel
theorem dX9_kind_181 : decode cX9_kind 181 = .ok (.iconst 0, 1) := by decide +kernel
theorem dX9_kind_182 : decode cX9_kind 182 = .ok (.ireturn, 1) := by decide +kernel
theorem dX9_keep_0 : decode cX9_keep 0 = .ok (.aload_n 0, 1) := by decide +kernel
theorem dX9_keep_1 : decode cX9_keep 1 = .ok (.getfield 247, 3) := by decide +kernel
theorem dX9_keep_4 : decode cX9_keep 4 = .ok (.bipush 12, 2) := by decide +kernel
theorem dX9_keep_6 : decode cX9_keep 6 = .ok (.if_icmp .ne 46, 3) := by decide +kernel
theorem dX9_keep_9 : decode cX9_keep 9 = .ok (.sipush 172, 3) := by decide +kernel
theorem dX9_keep_12 : decode cX9_keep 12 = .ok (.istore_n 1, 1) := by decide +kernel
theorem dX9_keep_13 : decode cX9_keep 13 = .ok (.iload_n 1, 1) := by decide +kernel
theorem dX9_keep_14 : decode cX9_keep 14 = .ok (.sipush 2064, 3) := by decide +kernel
theorem dX9_keep_17 : decode cX9_keep 17 = .ok (.if_icmp .ge 25, 3) := by decide +kernel
theorem dX9_keep_20 : decode cX9_keep 20 = .ok (.aload_n 0, 1) := by decide +kernel
theorem dX9_keep_21 : decode cX9_keep 21 = .ok (.getfield 41, 3) := by decide +kernel
theorem dX9_keep_24 : decode cX9_keep 24 = .ok (.iload_n 1, 1) := by decide +kernel
theorem dX9_keep_25 : decode cX9_keep 25 = .ok (.sipush 172, 3) := by decide +kernel
theorem dX9_keep_28 : decode cX9_keep 28 = .ok (.isub, 1) := by decide +kernel
theorem dX9_keep_29 : decode cX9_keep 29 = .ok (.aload_n 0, 1) := by decide +kernel
theorem dX9_keep_30 : decode cX9_keep 30 = .ok (.getfield 41, 3) := by decide +kernel
theorem dX9_keep_33 : decode cX9_keep 33 = .ok (.iload_n 1, 1) := by decide +kernel
theorem dX9_keep_34 : decode cX9_keep 34 = .ok (.iaload, 1) := by decide +kernel
theorem dX9_keep_35 : decode cX9_keep 35 = .ok (.iastore, 1) := by decide +kernel
theorem dX9_keep_36 : decode cX9_keep 36 = .ok (.iinc 1 1, 3) := by decide +kernel
theorem dX9_keep_39 : decode cX9_keep 39 = .ok (.goto (-26), 3) := by decide +kernel
theorem dX9_keep_42 : decode cX9_keep 42 = .ok (.aload_n 0, 1) := by decide +kernel
theorem dX9_keep_43 : decode cX9_keep 43 = .ok (.dup, 1) := by decide +kernel
theorem dX9_keep_44 : decode cX9_keep 44 = .ok (.getfield 247, 3) := by decide +kernel
theorem dX9_keep_47 : decode cX9_keep 47 = .ok (.iconst 1, 1) := by decide +kernel
theorem dX9_keep_48 : decode cX9_keep 48 = .ok (.isub, 1) := by decide +kernel
theorem dX9_keep_49 : decode cX9_keep 49 = .ok (.putfield 247, 3) := by decide +kernel
theorem dX9_keep_52 : decode cX9_keep 52 = .ok (.sipush 172, 3) := by decide +kernel
theorem dX9_keep_55 : decode cX9_keep 55 = .ok (.aload_n 0, 1) := by decide +kernel
theorem dX9_keep_56 : decode cX9_keep 56 = .ok (.getfield 247, 3) := by decide +kernel
theorem dX9_keep_59 : decode cX9_keep 59 = .ok (.imul, 1) := by decide +kernel
theorem dX9_keep_60 : decode cX9_keep 60 = .ok (.istore_n 1, 1) := by decide +kernel
theorem dX9_keep_61 : decode cX9_keep 61 = .ok (.iconst 0, 1) := by decide +kernel
theorem dX9_keep_62 : decode cX9_keep 62 = .ok (.istore_n 2, 1) := by decide +kernel
theorem dX9_keep_63 : decode cX9_keep 63 = .ok (.iload_n 2, 1) := by decide +kernel
theorem dX9_keep_64 : decode cX9_keep 64 = .ok (.bipush 80, 2) := by decide +kernel
theorem dX9_keep_66 : decode cX9_keep 66 = .ok (.if_icmp .ge 40, 3) := by decide +kernel
theorem dX9_keep_69 : decode cX9_keep 69 = .ok (.aload_n 0, 1) := by decide +kernel
theorem dX9_keep_70 : decode cX9_keep 70 = .ok (.getfield 41, 3) := by decide +kernel
theorem dX9_keep_73 : decode cX9_keep 73 = .ok (.iload_n 1, 1) := by decide +kernel
theorem dX9_keep_74 : decode cX9_keep 74 = .ok (.iload_n 2, 1) := by decide +kernel
theorem dX9_keep_75 : decode cX9_keep 75 = .ok (.iadd, 1) := by decide +kernel
theorem dX9_keep_76 : decode cX9_keep 76 = .ok (.aload_n 0, 1) := by decide +kernel
theorem dX9_keep_77 : decode cX9_keep 77 = .ok (.getfield 7, 3) := by decide +kernel
theorem dX9_keep_80 : decode cX9_keep 80 = .ok (.iload_n 2, 1) := by decide +kernel
theorem dX9_keep_81 : decode cX9_keep 81 = .ok (.iaload, 1) := by decide +kernel
theorem dX9_keep_82 : decode cX9_keep 82 = .ok (.iastore, 1) := by decide +kernel
theorem dX9_keep_83 : decode cX9_keep 83 = .ok (.aload_n 0, 1) := by decide +kernel
theorem dX9_keep_84 : decode cX9_keep 84 = .ok (.getfield 41, 3) := by decide +kernel
theorem dX9_keep_87 : decode cX9_keep 87 = .ok (.iload_n 1, 1) := by decide +kernel
theorem dX9_keep_88 : decode cX9_keep 88 = .ok (.bipush 80, 2) := by decide +kernel
theorem dX9_keep_90 : decode cX9_keep 90 = .ok (.iadd, 1) := by decide +kernel
theorem dX9_keep_91 : decode cX9_keep 91 = .ok (.iload_n 2, 1) := by decide +kernel
theorem dX9_keep_92 : decode cX9_keep 92 = .ok (.iadd, 1) := by decide +kernel
theorem dX9_keep_93 : decode cX9_keep 93 = .ok (.aload_n 0, 1) := by decide +kernel
theorem dX9_keep_94 : decode cX9_keep 94 = .ok (.getfield 13, 3) := by decide +kernel
theorem dX9_keep_97 : decode cX9_keep 97 = .ok (.iload_n 2, 1) := by decide +kernel
theorem dX9_keep_98 : decode cX9_keep 98 = .ok (.iaload, 1) := by decide +kernel
theorem dX9_keep_99 : decode cX9_keep 99 = .ok (.iastore, 1) := by decide +kernel
theorem dX9_keep_100 : decode cX9_keep 100 = .ok (.iinc 2 1, 3) := by decide +kernel
theorem dX9_keep_103 : decode cX9_keep 103 = .ok (.goto (-40), 3) := by decide +kernel
theorem dX9_keep_106 : decode cX9_keep 106 = .ok (.iconst 0, 1) := by decide +kernel
theorem dX9_keep_107 : decode cX9_keep 107 = .ok (.istore_n 2, 1) := by decide +kernel
theorem dX9_keep_108 : decode cX9_keep 108 = .ok (.iload_n 2, 1) := by decide +kernel
theorem dX9_keep_109 : decode cX9_keep 109 = .ok (.bipush 10, 2) := by decide +kernel
theorem dX9_keep_111 : decode cX9_keep 111 = .ok (.if_icmp .ge 27, 3) := by decide +kernel
theorem dX9_keep_114 : decode cX9_keep 114 = .ok (.aload_n 0, 1) := by decide +kernel
theorem dX9_keep_115 : decode cX9_keep 115 = .ok (.getfield 41, 3) := by decide +kernel
theorem dX9_keep_118 : decode cX9_keep 118 = .ok (.iload_n 1, 1) := by decide +kernel
theorem dX9_keep_119 : decode cX9_keep 119 = .ok (.sipush 160, 3) := by decide +kernel
theorem dX9_keep_122 : decode cX9_keep 122 = .ok (.iadd, 1) := by decide +kernel
theorem dX9_keep_123 : decode cX9_keep 123 = .ok (.iload_n 2, 1) := by decide +kernel
theorem dX9_keep_124 : decode cX9_keep 124 = .ok (.iadd, 1) := by decide +kernel
theorem dX9_keep_125 : decode cX9_keep 125 = .ok (.aload_n 0, 1) := by decide +kernel
theorem dX9_keep_126 : decode cX9_keep 126 = .ok (.getfield 16, 3) := by decide +kernel
theorem dX9_keep_129 : decode cX9_keep 129 = .ok (.iload_n 2, 1) := by decide +kernel
theorem dX9_keep_130 : decode cX9_keep 130 = .ok (.iaload, 1) := by decide +kernel
theorem dX9_keep_131 : decode cX9_keep 131 = .ok (.iastore, 1) := by decide +kernel
theorem dX9_keep_132 : decode cX9_keep 132 = .ok (.iinc 2 1, 3) := by decide +kernel
theorem dX9_keep_135 : decode cX9_keep 135 = .ok (.goto (-27), 3) := by decide +kernel
theorem dX9_keep_138 : decode cX9_keep 138 = .ok (.aload_n 0, 1) := by decide +kernel
theorem dX9_keep_139 : decode cX9_keep 139 = .ok (.getfield 41, 3) := by decide +kernel
theorem dX9_keep_142 : decode cX9_keep 142 = .ok (.iload_n 1, 1) := by decide +kernel
theorem dX9_keep_143 : decode cX9_keep 143 = .ok (.sipush 170, 3) := by decide +kernel
theorem dX9_keep_146 : decode cX9_keep 146 = .ok (.iadd, 1) := by decide +kernel
theorem dX9_keep_147 : decode cX9_keep 147 = .ok (.aload_n 0, 1) := by decide +kernel
theorem dX9_keep_148 : decode cX9_keep 148 = .ok (.getfield 19, 3) := by decide +kernel
theorem dX9_keep_151 : decode cX9_keep 151 = .ok (.iconst 0, 1) := by decide +kernel
theorem dX9_keep_152 : decode cX9_keep 152 = .ok (.iaload, 1) := by decide +kernel
theorem dX9_keep_153 : decode cX9_keep 153 = .ok (.iastore, 1) := by decide +kernel
theorem dX9_keep_154 : decode cX9_keep 154 = .ok (.aload_n 0, 1) := by decide +kernel
theorem dX9_keep_155 : decode cX9_keep 155 = .ok (.getfield 41, 3) := by decide +kernel
theorem dX9_keep_158 : decode cX9_keep 158 = .ok (.iload_n 1, 1) := by decide +kernel
theorem dX9_keep_159 : decode cX9_keep 159 = .ok (.sipush 171, 3) := by decide +kernel
theorem dX9_keep_162 : decode cX9_keep 162 = .ok (.iadd, 1) := by decide +kernel
theorem dX9_keep_163 : decode cX9_keep 163 = .ok (.aload_n 0, 1) := by decide +kernel
theorem dX9_keep_164 : decode cX9_keep 164 = .ok (.getfield 22, 3) := by decide +kernel
theorem dX9_keep_167 : decode cX9_keep 167 = .ok (.iconst 0, 1) := by decide +kernel
theorem dX9_keep_168 : decode cX9_keep 168 = .ok (.iaload, 1) := by decide +kernel
theorem dX9_keep_169 : decode cX9_keep 169 = .ok (.iastore, 1) := by decide +kernel
theorem dX9_keep_170 : decode cX9_keep 170 = .ok (.aload_n 0, 1) := by decide +kernel
theorem dX9_keep_171 : decode cX9_keep 171 = .ok (.dup, 1) := by decide +kernel
theorem dX9_keep_172 : decode cX9_keep 172 = .ok (.getfield 247, 3) := by decide +kernel
theorem dX9_keep_175 : decode cX9_keep 175 = .ok (.iconst 1, 1) := by decide +kernel
theorem dX9_keep_176 : decode cX9_keep 176 = .ok (.iadd, 1) := by decide +kernel
theorem dX9_keep_177 : decode cX9_keep 177 = .ok (.putfield 247, 3) := by decide +kernel
theorem dX9_keep_180 : decode cX9_keep 180 = .ok (.return_, 1) := by decide +kernel
theorem dX9_undo_0 : decode cX9_undo 0 = .ok (.aload_n 0, 1) := by decide +kernel
theorem dX9_undo_1 : decode cX9_undo 1 = .ok (.iconst 0, 1) := by decide +kernel
theorem dX9_undo_2 : decode cX9_undo 2 = .ok (.putfield 133, 3) := by decide +kernel
theorem dX9_undo_5 : decode cX9_undo 5 = .ok (.aload_n 0, 1) := by decide +kernel
theorem dX9_undo_6 : decode cX9_undo 6 = .ok (.getfield 247, 3) := by decide +kernel
theorem dX9_undo_9 : decode cX9_undo 9 = .ok (.ifCond .ne 5, 3) := by decide +kernel
theorem dX9_undo_12 : decode cX9_undo 12 = .ok (.iconst 0, 1) := by decide +kernel
theorem dX9_undo_13 : decode cX9_undo 13 = .ok (.ireturn, 1) := by decide +kernel
theorem dX9_undo_14 : decode cX9_undo 14 = .ok (.aload_n 0, 1) := by decide +kernel
theorem dX9_undo_15 : decode cX9_undo 15 = .ok (.dup, 1) := by decide +kernel
theorem dX9_undo_16 : decode cX9_undo 16 = .ok (.getfield 247, 3) := by decide +kernel
theorem dX9_undo_19 : decode cX9_undo 19 = .ok (.iconst 1, 1) := by decide +kernel
theorem dX9_undo_20 : decode cX9_undo 20 = .ok (.isub, 1) := by decide +kernel
theorem dX9_undo_21 : decode cX9_undo 21 = .ok (.putfield 247, 3) := by decide +kernel
theorem dX9_undo_24 : decode cX9_undo 24 = .ok (.sipush 172, 3) := by decide +kernel
theorem dX9_undo_27 : decode cX9_undo 27 = .ok (.aload_n 0, 1) := by decide +kernel
theorem dX9_undo_28 : decode cX9_undo 28 = .ok (.getfield 247, 3) := by decide +kernel
theorem dX9_undo_31 : decode cX9_undo 31 = .ok (.imul, 1) := by decide +kernel
theorem dX9_undo_32 : decode cX9_undo 32 = .ok (.istore_n 1, 1) := by decide +kernel
theorem dX9_undo_33 : decode cX9_undo 33 = .ok (.iconst 0, 1) := by decide +kernel
theorem dX9_undo_34 : decode cX9_undo 34 = .ok (.istore_n 2, 1) := by decide +kernel
theorem dX9_undo_35 : decode cX9_undo 35 = .ok (.iload_n 2, 1) := by decide +kernel
theorem dX9_undo_36 : decode cX9_undo 36 = .ok (.bipush 80, 2) := by decide +kernel
theorem dX9_undo_38 : decode cX9_undo 38 = .ok (.if_icmp .ge 40, 3) := by decide +kernel
theorem dX9_undo_41 : decode cX9_undo 41 = .ok (.aload_n 0, 1) := by decide +kernel
theorem dX9_undo_42 : decode cX9_undo 42 = .ok (.getfield 7, 3) := by decide +kernel
theorem dX9_undo_45 : decode cX9_undo 45 = .ok (.iload_n 2, 1) := by decide +kernel
theorem dX9_undo_46 : decode cX9_undo 46 = .ok (.aload_n 0, 1) := by decide +kernel
theorem dX9_undo_47 : decode cX9_undo 47 = .ok (.getfield 41, 3) := by decide +kernel
theorem dX9_undo_50 : decode cX9_undo 50 = .ok (.iload_n 1, 1) := by decide +kernel
theorem dX9_undo_51 : decode cX9_undo 51 = .ok (.iload_n 2, 1) := by decide +kernel
theorem dX9_undo_52 : decode cX9_undo 52 = .ok (.iadd, 1) := by decide +kernel
theorem dX9_undo_53 : decode cX9_undo 53 = .ok (.iaload, 1) := by decide +kernel
theorem dX9_undo_54 : decode cX9_undo 54 = .ok (.iastore, 1) := by decide +kernel
theorem dX9_undo_55 : decode cX9_undo 55 = .ok (.aload_n 0, 1) := by decide +kernel
theorem dX9_undo_56 : decode cX9_undo 56 = .ok (.getfield 13, 3) := by decide +kernel
theorem dX9_undo_59 : decode cX9_undo 59 = .ok (.iload_n 2, 1) := by decide +kernel
theorem dX9_undo_60 : decode cX9_undo 60 = .ok (.aload_n 0, 1) := by decide +kernel
theorem dX9_undo_61 : decode cX9_undo 61 = .ok (.getfield 41, 3) := by decide +kernel
theorem dX9_undo_64 : decode cX9_undo 64 = .ok (.iload_n 1, 1) := by decide +kernel
theorem dX9_undo_65 : decode cX9_undo 65 = .ok (.bipush 80, 2) := by decide +kernel
theorem dX9_undo_67 : decode cX9_undo 67 = .ok (.iadd, 1) := by decide +kernel
theorem dX9_undo_68 : decode cX9_undo 68 = .ok (.iload_n 2, 1) := by decide +kernel
theorem dX9_undo_69 : decode cX9_undo 69 = .ok (.iadd, 1) := by decide +kernel
theorem dX9_undo_70 : decode cX9_undo 70 = .ok (.iaload, 1) := by decide +kernel
theorem dX9_undo_71 : decode cX9_undo 71 = .ok (.iastore, 1) := by decide +kernel
theorem dX9_undo_72 : decode cX9_undo 72 = .ok (.iinc 2 1, 3) := by decide +kernel
theorem dX9_undo_75 : decode cX9_undo 75 = .ok (.goto (-40), 3) := by decide +kernel
theorem dX9_undo_78 : decode cX9_undo 78 = .ok (.iconst 0, 1) := by decide +kernel
theorem dX9_undo_79 : decode cX9_undo 79 = .ok (.istore_n 2, 1) := by decide +kernel
theorem dX9_undo_80 : decode cX9_undo 80 = .ok (.iload_n 2, 1) := by decide +kernel
theorem dX9_undo_81 : decode cX9_undo 81 = .ok (.bipush 10, 2) := by decide +kernel
theorem dX9_undo_83 : decode cX9_undo 83 = .ok (.if_icmp .ge 27, 3) := by decide +kernel
theorem dX9_undo_86 : decode cX9_undo 86 = .ok (.aload_n 0, 1) := by decide +kernel
theorem dX9_undo_87 : decode cX9_undo 87 = .ok (.getfield 16, 3) := by decide +kernel
theorem dX9_undo_90 : decode cX9_undo 90 = .ok (.iload_n 2, 1) := by decide +kernel
theorem dX9_undo_91 : decode cX9_undo 91 = .ok (.aload_n 0, 1) := by decide +kernel
theorem dX9_undo_92 : decode cX9_undo 92 = .ok (.getfield 41, 3) := by decide +kernel
theorem dX9_undo_95 : decode cX9_undo 95 = .ok (.iload_n 1, 1) := by decide +kernel
theorem dX9_undo_96 : decode cX9_undo 96 = .ok (.sipush 160, 3) := by decide +kernel
theorem dX9_undo_99 : decode cX9_undo 99 = .ok (.iadd, 1) := by decide +kernel
theorem dX9_undo_100 : decode cX9_undo 100 = .ok (.iload_n 2, 1) := by decide +kernel
theorem dX9_undo_101 : decode cX9_undo 101 = .ok (.iadd, 1) := by decide +kernel
theorem dX9_undo_102 : decode cX9_undo 102 = .ok (.iaload, 1) := by decide +kernel
theorem dX9_undo_103 : decode cX9_undo 103 = .ok (.iastore, 1) := by decide +kernel
theorem dX9_undo_104 : decode cX9_undo 104 = .ok (.iinc 2 1, 3) := by decide +kernel
theorem dX9_undo_107 : decode cX9_undo 107 = .ok (.goto (-27), 3) := by decide +kernel
theorem dX9_undo_110 : decode cX9_undo 110 = .ok (.aload_n 0, 1) := by decide +kernel
theorem dX9_undo_111 : decode cX9_undo 111 = .ok (.getfield 19, 3) := by decide +kernel
theorem dX9_undo_114 : decode cX9_undo 114 = .ok (.iconst 0, 1) := by decide +kernel
theorem dX9_undo_115 : decode cX9_undo 115 = .ok (.aload_n 0, 1) := by decide +kernel
theorem dX9_undo_116 : decode cX9_undo 116 = .ok (.getfield 41, 3) := by decide +kernel
theorem dX9_undo_119 : decode cX9_undo 119 = .ok (.iload_n 1, 1) := by decide +kernel
theorem dX9_undo_120 : decode cX9_undo 120 = .ok (.sipush 170, 3) := by decide +kernel
theorem dX9_undo_123 : decode cX9_undo 123 = .ok (.iadd, 1) := by decide +kernel
theorem dX9_undo_124 : decode cX9_undo 124 = .ok (.iaload, 1) := by decide +kernel
theorem dX9_undo_125 : decode cX9_undo 125 = .ok (.iastore, 1) := by decide +kernel
theorem dX9_undo_126 : decode cX9_undo 126 = .ok (.aload_n 0, 1) := by decide +kernel
theorem dX9_undo_127 : decode cX9_undo 127 = .ok (.getfield 22, 3) := by decide +kernel
theorem dX9_undo_130 : decode cX9_undo 130 = .ok (.iconst 0, 1) := by decide +kernel
theorem dX9_undo_131 : decode cX9_undo 131 = .ok (.aload_n 0, 1) := by decide +kernel
theorem dX9_undo_132 : decode cX9_undo 132 = .ok (.getfield 41, 3) := by decide +kernel
theorem dX9_undo_135 : decode cX9_undo 135 = .ok (.iload_n 1, 1) := by decide +kernel
theorem dX9_undo_136 : decode cX9_undo 136 = .ok (.sipush 171, 3) := by decide +kernel
theorem dX9_undo_139 : decode cX9_undo 139 = .ok (.iadd, 1) := by decide +kernel
theorem dX9_undo_140 : decode cX9_undo 140 = .ok (.iaload, 1) := by decide +kernel
theorem dX9_undo_141 : decode cX9_undo 141 = .ok (.iastore, 1) := by decide +kernel
theorem dX9_undo_142 : decode cX9_undo 142 = .ok (.aload_n 0, 1) := by decide +kernel
theorem dX9_undo_143 : decode cX9_undo 143 = .ok (.invokevirtual 250, 3) := by decide +kernel
theorem dX9_undo_146 : decode cX9_undo 146 = .ok (.iconst 1, 1) := by decide +kernel
theorem dX9_undo_147 : decode cX9_undo 147 = .ok (.ireturn, 1) := by decide +kernel
theorem dX9_canBe_0 : decode cX9_canBe 0 = .ok (.aload_n 0, 1) := by decide +kernel
theorem dX9_canBe_1 : decode cX9_canBe 1 = .ok (.getfield 22, 3) := by decide +kernel
theorem dX9_canBe_4 : decode cX9_canBe 4 = .ok (.iload_n 1, 1) := by decide +kernel
theorem dX9_canBe_5 : decode cX9_canBe 5 = .ok (.iaload, 1) := by decide +kernel
theorem dX9_canBe_6 : decode cX9_canBe 6 = .ok (.iload_n 2, 1) := by decide +kernel
theorem dX9_canBe_7 : decode cX9_canBe 7 = .ok (.invokestatic 140, 3) := by decide +kernel
theorem dX9_canBe_10 : decode cX9_canBe 10 = .ok (.ifCond .ne 5, 3) := by decide +kernel
theorem dX9_canBe_13 : decode cX9_canBe 13 = .ok (.iconst 0, 1) := by decide +kernel
theorem dX9_canBe_14 : decode cX9_canBe 14 = .ok (.ireturn, 1) := by decide +kernel
theorem dX9_canBe_15 : decode cX9_canBe 15 = .ok (.iconst 0, 1) := by decide +kernel
theorem dX9_canBe_16 : decode cX9_canBe 16 = .ok (.istore 5, 2) := by decide +kernel
theorem dX9_canBe_18 : decode cX9_canBe 18 = .ok (.iload 5, 2) := by decide +kernel
theorem dX9_canBe_20 : decode cX9_canBe 20 = .ok (.bipush 10, 2) := by decide +kernel
theorem dX9_canBe_22 : decode cX9_canBe 22 = .ok (.if_icmp .ge 67, 3) := by decide +kernel
theorem dX9_canBe_25 : decode cX9_canBe 25 = .ok (.aload_n 0, 1) := by decide +kernel
theorem dX9_canBe_26 : decode cX9_canBe 26 = .ok (.iload_n 1, 1) := by decide +kernel
theorem dX9_canBe_27 : decode cX9_canBe 27 = .ok (.iload_n 2, 1) := by decide +kernel
theorem dX9_canBe_28 : decode cX9_canBe 28 = .ok (.iload 5, 2) := by decide +kernel
theorem dX9_canBe_30 : decode cX9_canBe 30 = .ok (.invokevirtual 144, 3) := by decide +kernel
theorem dX9_canBe_33 : decode cX9_canBe 33 = .ok (.istore 6, 2) := by decide +kernel
theorem dX9_canBe_35 : decode cX9_canBe 35 = .ok (.aload_n 3, 1) := by decide +kernel
theorem dX9_canBe_36 : decode cX9_canBe 36 = .ok (.iload 4, 2) := by decide +kernel
theorem dX9_canBe_38 : decode cX9_canBe 38 = .ok (.iload 5, 2) := by decide +kernel
theorem dX9_canBe_40 : decode cX9_canBe 40 = .ok (.iadd, 1) := by decide +kernel
theorem dX9_canBe_41 : decode cX9_canBe 41 = .ok (.iaload, 1) := by decide +kernel
theorem dX9_canBe_42 : decode cX9_canBe 42 = .ok (.aload_n 0, 1) := by decide +kernel
theorem dX9_canBe_43 : decode cX9_canBe 43 = .ok (.getfield 7, 3) := by decide +kernel
theorem dX9_canBe_46 : decode cX9_canBe 46 = .ok (.iload 6, 2) := by decide +kernel
theorem dX9_canBe_48 : decode cX9_canBe 48 = .ok (.iaload, 1) := by decide +kernel
theorem dX9_canBe_49 : decode cX9_canBe 49 = .ok (.if_icmp .lt 32, 3) := by decide +kernel
theorem dX9_canBe_52 : decode cX9_canBe 52 = .ok (.aload_n 3, 1) := by decide +kernel
theorem dX9_canBe_53 : decode cX9_canBe 53 = .ok (.iload 4, 2) := by decide +kernel
theorem dX9_canBe_55 : decode cX9_canBe 55 = .ok (.iload 5, 2) := by decide +kernel
theorem dX9_canBe_57 : decode cX9_canBe 57 = .ok (.iadd, 1) := by decide +kernel
theorem dX9_canBe_58 : decode cX9_canBe 58 = .ok (.iaload, 1) := by decide +kernel
theorem dX9_canBe_59 : decode cX9_canBe 59 = .ok (.aload_n 0, 1) := by decide +kernel
theorem dX9_canBe_60 : decode cX9_canBe 60 = .ok (.getfield 7, 3) := by decide +kernel
theorem dX9_canBe_63 : decode cX9_canBe 63 = .ok (.iload 6, 2) := by decide +kernel
theorem dX9_canBe_65 : decode cX9_canBe 65 = .ok (.iaload, 1) := by decide +kernel
theorem dX9_canBe_66 : decode cX9_canBe 66 = .ok (.isub, 1) := by decide +kernel
theorem dX9_canBe_67 : decode cX9_canBe 67 = .ok (.aload_n 0, 1) := by decide +kernel
theorem dX9_canBe_68 : decode cX9_canBe 68 = .ok (.getfield 13, 3) := by decide +kernel
theorem dX9_canBe_71 : decode cX9_canBe 71 = .ok (.iload 6, 2) := by decide +kernel
theorem dX9_canBe_73 : decode cX9_canBe 73 = .ok (.iaload, 1) := by decide +kernel
theorem dX9_canBe_74 : decode cX9_canBe 74 = .ok (.iadd, 1) := by decide +kernel
theorem dX9_canBe_75 : decode cX9_canBe 75 = .ok (.sipush 999, 3) := by decide +kernel
theorem dX9_canBe_78 : decode cX9_canBe 78 = .ok (.if_icmp .le 5, 3) := by decide +kernel
theorem dX9_canBe_81 : decode cX9_canBe 81 = .ok (.iconst 0, 1) := by decide +kernel
theorem dX9_canBe_82 : decode cX9_canBe 82 = .ok (.ireturn, 1) := by decide +kernel
theorem dX9_canBe_83 : decode cX9_canBe 83 = .ok (.iinc 5 1, 3) := by decide +kernel
theorem dX9_canBe_86 : decode cX9_canBe 86 = .ok (.goto (-68), 3) := by decide +kernel
theorem dX9_canBe_89 : decode cX9_canBe 89 = .ok (.iconst 1, 1) := by decide +kernel
theorem dX9_canBe_90 : decode cX9_canBe 90 = .ok (.ireturn, 1) := by decide +kernel
theorem dX9_allThatCan_0 : decode cX9_allThatCan 0 = .ok (.iconst 0, 1) := by decide +kernel
theorem dX9_allThatCan_1 : decode cX9_allThatCan 1 = .ok (.istore_n 1, 1) := by decide +kernel
theorem dX9_allThatCan_2 : decode cX9_allThatCan 2 = .ok (.iconst 0, 1) := by decide +kernel
theorem dX9_allThatCan_3 : decode cX9_allThatCan 3 = .ok (.istore_n 2, 1) := by decide +kernel
theorem dX9_allThatCan_4 : decode cX9_allThatCan 4 = .ok (.iload_n 2, 1) := by decide +kernel
theorem dX9_allThatCan_5 : decode cX9_allThatCan 5 = .ok (.bipush 8, 2) := by decide +kernel
theorem dX9_allThatCan_7 : decode cX9_allThatCan 7 = .ok (.if_icmp .ge 33, 3) := by decide +kernel
theorem dX9_allThatCan_10 : decode cX9_allThatCan 10 = .ok (.iload_n 1, 1) := by decide +kernel
theorem dX9_allThatCan_11 : decode cX9_allThatCan 11 = .ok (.aload_n 0, 1) := by decide +kernel
theorem dX9_allThatCan_12 : decode cX9_allThatCan 12 = .ok (.iconst 0, 1) := by decide +kernel
theorem dX9_allThatCan_13 : decode cX9_allThatCan 13 = .ok (.iload_n 2, 1) := by decide +kernel
theorem dX9_allThatCan_14 : decode cX9_allThatCan 14 = .ok (.aload_n 0, 1) := by decide +kernel
theorem dX9_allThatCan_15 : decode cX9_allThatCan 15 = .ok (.getfield 16, 3) := by decide +kernel
theorem dX9_allThatCan_18 : decode cX9_allThatCan 18 = .ok (.iconst 0, 1) := by decide +kernel
theorem dX9_allThatCan_19 : decode cX9_allThatCan 19 = .ok (.invokevirtual 292, 3) := by decide +kernel
theorem dX9_allThatCan_22 : decode cX9_allThatCan 22 = .ok (.ifCond .eq 9, 3) := by decide +kernel
theorem dX9_allThatCan_25 : decode cX9_allThatCan 25 = .ok (.iconst 1, 1) := by decide +kernel
theorem dX9_allThatCan_26 : decode cX9_allThatCan 26 = .ok (.iload_n 2, 1) := by decide +kernel
theorem dX9_allThatCan_27 : decode cX9_allThatCan 27 = .ok (.ishl, 1) := by decide +kernel
theorem dX9_allThatCan_28 : decode cX9_allThatCan 28 = .ok (.goto 4, 3) := by decide +kernel
theorem dX9_allThatCan_31 : decode cX9_allThatCan 31 = .ok (.iconst 0, 1) := by decide +kernel
theorem dX9_allThatCan_32 : decode cX9_allThatCan 32 = .ok (.ior, 1) := by decide +kernel
theorem dX9_allThatCan_33 : decode cX9_allThatCan 33 = .ok (.istore_n 1, 1) := by decide +kernel
theorem dX9_allThatCan_34 : decode cX9_allThatCan 34 = .ok (.iinc 2 1, 3) := by decide +kernel
theorem dX9_allThatCan_37 : decode cX9_allThatCan 37 = .ok (.goto (-33), 3) := by decide +kernel
theorem dX9_allThatCan_40 : decode cX9_allThatCan 40 = .ok (.iload_n 1, 1) := by decide +kernel
theorem dX9_allThatCan_41 : decode cX9_allThatCan 41 = .ok (.ireturn, 1) := by decide +kernel
theorem dX9_does_0 : decode cX9_does 0 = .ok (.iconst 0, 1) := by decide +kernel
theorem dX9_does_1 : decode cX9_does 1 = .ok (.istore_n 2, 1) := by decide +kernel
theorem dX9_does_2 : decode cX9_does 2 = .ok (.iload_n 2, 1) := by decide +kernel
theorem dX9_does_3 : decode cX9_does 3 = .ok (.bipush 10, 2) := by decide +kernel
theorem dX9_does_5 : decode cX9_does 5 = .ok (.if_icmp .ge 25, 3) := by decide +kernel
theorem dX9_does_8 : decode cX9_does 8 = .ok (.aload_n 0, 1) := by decide +kernel
theorem dX9_does_9 : decode cX9_does 9 = .ok (.getfield 16, 3) := by decide +kernel
theorem dX9_does_12 : decode cX9_does 12 = .ok (.iload_n 2, 1) := by decide +kernel
theorem dX9_does_13 : decode cX9_does 13 = .ok (.dup2, 1) := by decide +kernel
theorem dX9_does_14 : decode cX9_does 14 = .ok (.iaload, 1) := by decide +kernel
theorem dX9_does_15 : decode cX9_does 15 = .ok (.aload_n 0, 1) := by decide +kernel
theorem dX9_does_16 : decode cX9_does 16 = .ok (.iconst 0, 1) := by decide +kernel
theorem dX9_does_17 : decode cX9_does 17 = .ok (.iload_n 1, 1) := by decide +kernel
theorem dX9_does_18 : decode cX9_does 18 = .ok (.iload_n 2, 1) := by decide +kernel
theorem dX9_does_19 : decode cX9_does 19 = .ok (.invokevirtual 279, 3) := by decide +kernel
theorem dX9_does_22 : decode cX9_does 22 = .ok (.iadd, 1) := by decide +kernel
theorem dX9_does_23 : decode cX9_does 23 = .ok (.iastore, 1) := by decide +kernel
theorem dX9_does_24 : decode cX9_does 24 = .ok (.iinc 2 1, 3) := by decide +kernel
theorem dX9_does_27 : decode cX9_does 27 = .ok (.goto (-25), 3) := by decide +kernel
theorem dX9_does_30 : decode cX9_does 30 = .ok (.return_, 1) := by decide +kernel
theorem dX9_fire_0 : decode cX9_fire 0 = .ok (.aload_n 0, 1) := by decide +kernel
theorem dX9_fire_1 : decode cX9_fire 1 = .ok (.iconst 0, 1) := by decide +kernel
theorem dX9_fire_2 : decode cX9_fire 2 = .ok (.putfield 133, 3) := by decide +kernel
theorem dX9_fire_5 : decode cX9_fire 5 = .ok (.aload_n 0, 1) := by decide +kernel
theorem dX9_fire_6 : decode cX9_fire 6 = .ok (.iload_n 1, 1) := by decide +kernel
theorem dX9_fire_7 : decode cX9_fire 7 = .ok (.invokevirtual 272, 3) := by decide +kernel
theorem dX9_fire_10 : decode cX9_fire 10 = .ok (.ifCond .eq 17, 3) := by decide +kernel
theorem dX9_fire_13 : decode cX9_fire 13 = .ok (.aload_n 0, 1) := by decide +kernel
theorem dX9_fire_14 : decode cX9_fire 14 = .ok (.iconst 0, 1) := by decide +kernel
theorem dX9_fire_15 : decode cX9_fire 15 = .ok (.iload_n 1, 1) := by decide +kernel
theorem dX9_fire_16 : decode cX9_fire 16 = .ok (.aload_n 0, 1) := by decide +kernel
theorem dX9_fire_17 : decode cX9_fire 17 = .ok (.getfield 16, 3) := by decide +kernel
theorem dX9_fire_20 : decode cX9_fire 20 = .ok (.iconst 0, 1) := by decide +kernel
theorem dX9_fire_21 : decode cX9_fire 21 = .ok (.invokevirtual 292, 3) := by decide +kernel
theorem dX9_fire_24 : decode cX9_fire 24 = .ok (.ifCond .ne 5, 3) := by decide +kernel
theorem dX9_fire_27 : decode cX9_fire 27 = .ok (.iconst (-1), 1) := by decide +kernel
theorem dX9_fire_28 : decode cX9_fire 28 = .ok (.ireturn, 1) := by decide +kernel
theorem dX9_fire_29 : decode cX9_fire 29 = .ok (.aload_n 0, 1) := by decide +kernel
theorem dX9_fire_30 : decode cX9_fire 30 = .ok (.invokevirtual 296, 3) := by decide +kernel
theorem dX9_fire_33 : decode cX9_fire 33 = .ok (.aload_n 0, 1) := by decide +kernel
theorem dX9_fire_34 : decode cX9_fire 34 = .ok (.iload_n 1, 1) := by decide +kernel
theorem dX9_fire_35 : decode cX9_fire 35 = .ok (.invokevirtual 299, 3) := by decide +kernel
theorem dX9_fire_38 : decode cX9_fire 38 = .ok (.aload_n 0, 1) := by decide +kernel
theorem dX9_fire_39 : decode cX9_fire 39 = .ok (.invokevirtual 263, 3) := by decide +kernel
theorem dX9_fire_42 : decode cX9_fire 42 = .ok (.aload_n 0, 1) := by decide +kernel
theorem dX9_fire_43 : decode cX9_fire 43 = .ok (.invokevirtual 302, 3) := by decide +kernel
theorem dX9_fire_46 : decode cX9_fire 46 = .ok (.ireturn, 1) := by decide +kernel
theorem dX9_set_0 : decode cX9_set 0 = .ok (.aload_n 0, 1) := by decide +kernel
theorem dX9_set_1 : decode cX9_set 1 = .ok (.iconst 0, 1) := by decide +kernel
theorem dX9_set_2 : decode cX9_set 2 = .ok (.putfield 133, 3) := by decide +kernel
theorem dX9_set_5 : decode cX9_set 5 = .ok (.aload_n 0, 1) := by decide +kernel
theorem dX9_set_6 : decode cX9_set 6 = .ok (.iload_n 1, 1) := by decide +kernel
theorem dX9_set_7 : decode cX9_set 7 = .ok (.invokevirtual 275, 3) := by decide +kernel
theorem dX9_set_10 : decode cX9_set 10 = .ok (.ifCond .eq 24, 3) := by decide +kernel
theorem dX9_set_13 : decode cX9_set 13 = .ok (.iload_n 2, 1) := by decide +kernel
theorem dX9_set_14 : decode cX9_set 14 = .ok (.iconst 0, 1) := by decide +kernel
theorem dX9_set_15 : decode cX9_set 15 = .ok (.sipush 999, 3) := by decide +kernel
theorem dX9_set_18 : decode cX9_set 18 = .ok (.invokestatic 136, 3) := by decide +kernel
theorem dX9_set_21 : decode cX9_set 21 = .ok (.ifCond .eq 13, 3) := by decide +kernel
theorem dX9_set_24 : decode cX9_set 24 = .ok (.aload_n 0, 1) := by decide +kernel
theorem dX9_set_25 : decode cX9_set 25 = .ok (.getfield 16, 3) := by decide +kernel
theorem dX9_set_28 : decode cX9_set 28 = .ok (.iload_n 1, 1) := by decide +kernel
theorem dX9_set_29 : decode cX9_set 29 = .ok (.iaload, 1) := by decide +kernel
theorem dX9_set_30 : decode cX9_set 30 = .ok (.iload_n 2, 1) := by decide +kernel
theorem dX9_set_31 : decode cX9_set 31 = .ok (.if_icmp .ne 5, 3) := by decide +kernel
theorem dX9_set_34 : decode cX9_set 34 = .ok (.iconst (-1), 1) := by decide +kernel
theorem dX9_set_35 : decode cX9_set 35 = .ok (.ireturn, 1) := by decide +kernel
theorem dX9_set_36 : decode cX9_set 36 = .ok (.aload_n 0, 1) := by decide +kernel
theorem dX9_set_37 : decode cX9_set 37 = .ok (.invokevirtual 296, 3) := by decide +kernel
theorem dX9_set_40 : decode cX9_set 40 = .ok (.aload_n 0, 1) := by decide +kernel
theorem dX9_set_41 : decode cX9_set 41 = .ok (.getfield 16, 3) := by decide +kernel
theorem dX9_set_44 : decode cX9_set 44 = .ok (.iload_n 1, 1) := by decide +kernel
theorem dX9_set_45 : decode cX9_set 45 = .ok (.iaload, 1) := by decide +kernel
theorem dX9_set_46 : decode cX9_set 46 = .ok (.istore_n 3, 1) := by decide +kernel
theorem dX9_set_47 : decode cX9_set 47 = .ok (.aload_n 0, 1) := by decide +kernel
theorem dX9_set_48 : decode cX9_set 48 = .ok (.getfield 16, 3) := by decide +kernel
theorem dX9_set_51 : decode cX9_set 51 = .ok (.iload_n 1, 1) := by decide +kernel
theorem dX9_set_52 : decode cX9_set 52 = .ok (.iload_n 2, 1) := by decide +kernel
theorem dX9_set_53 : decode cX9_set 53 = .ok (.iastore, 1) := by decide +kernel
theorem dX9_set_54 : decode cX9_set 54 = .ok (.aload_n 0, 1) := by decide +kernel
theorem dX9_set_55 : decode cX9_set 55 = .ok (.invokevirtual 263, 3) := by decide +kernel
theorem dX9_set_58 : decode cX9_set 58 = .ok (.iload_n 3, 1) := by decide +kernel
theorem dX9_set_59 : decode cX9_set 59 = .ok (.ireturn, 1) := by decide +kernel
theorem dX9_run_0 : decode cX9_run 0 = .ok (.aload_n 0, 1) := by decide +kernel
theorem dX9_run_1 : decode cX9_run 1 = .ok (.iconst 0, 1) := by decide +kernel
theorem dX9_run_2 : decode cX9_run 2 = .ok (.putfield 133, 3) := by decide +kernel
theorem dX9_run_5 : decode cX9_run 5 = .ok (.iload_n 2, 1) := by decide +kernel
theorem dX9_run_6 : decode cX9_run 6 = .ok (.iconst 1, 1) := by decide +kernel
theorem dX9_run_7 : decode cX9_run 7 = .ok (.sipush 200, 3) := by decide +kernel
theorem dX9_run_10 : decode cX9_run 10 = .ok (.invokestatic 136, 3) := by decide +kernel
theorem dX9_run_13 : decode cX9_run 13 = .ok (.ifCond .eq 12, 3) := by decide +kernel
theorem dX9_run_16 : decode cX9_run 16 = .ok (.aload_n 0, 1) := by decide +kernel
theorem dX9_run_17 : decode cX9_run 17 = .ok (.getfield 22, 3) := by decide +kernel
theorem dX9_run_20 : decode cX9_run 20 = .ok (.iconst 0, 1) := by decide +kernel
theorem dX9_run_21 : decode cX9_run 21 = .ok (.iaload, 1) := by decide +kernel
theorem dX9_run_22 : decode cX9_run 22 = .ok (.ifCond .ne 5, 3) := by decide +kernel
theorem dX9_run_25 : decode cX9_run 25 = .ok (.iconst (-1), 1) := by decide +kernel
theorem dX9_run_26 : decode cX9_run 26 = .ok (.ireturn, 1) := by decide +kernel
theorem dX9_run_27 : decode cX9_run 27 = .ok (.aload_n 0, 1) := by decide +kernel
theorem dX9_run_28 : decode cX9_run 28 = .ok (.invokevirtual 296, 3) := by decide +kernel
theorem dX9_run_31 : decode cX9_run 31 = .ok (.iload_n 1, 1) := by decide +kernel
theorem dX9_run_32 : decode cX9_run 32 = .ok (.istore_n 3, 1) := by decide +kernel
theorem dX9_run_33 : decode cX9_run 33 = .ok (.iconst 0, 1) := by decide +kernel
theorem dX9_run_34 : decode cX9_run 34 = .ok (.istore 4, 2) := by decide +kernel
theorem dX9_run_36 : decode cX9_run 36 = .ok (.aload_n 0, 1) := by decide +kernel
theorem dX9_run_37 : decode cX9_run 37 = .ok (.invokevirtual 302, 3) := by decide +kernel
theorem dX9_run_40 : decode cX9_run 40 = .ok (.istore 5, 2) := by decide +kernel
theorem dX9_run_42 : decode cX9_run 42 = .ok (.iload 4, 2) := by decide +kernel
theorem dX9_run_44 : decode cX9_run 44 = .ok (.iload_n 2, 1) := by decide +kernel
theorem dX9_run_45 : decode cX9_run 45 = .ok (.if_icmp .ge 92, 3) := by decide +kernel
theorem dX9_run_48 : decode cX9_run 48 = .ok (.iload 5, 2) := by decide +kernel
theorem dX9_run_50 : decode cX9_run 50 = .ok (.ifCond .eq 87, 3) := by decide +kernel
theorem dX9_run_53 : decode cX9_run 53 = .ok (.iload_n 3, 1) := by decide +kernel
theorem dX9_run_54 : decode cX9_run 54 = .ok (.ldc_w 305, 3) := by decide +kernel
theorem dX9_run_57 : decode cX9_run 57 = .ok (.imul, 1) := by decide +kernel
theorem dX9_run_58 : decode cX9_run 58 = .ok (.sipush 12345, 3) := by decide +kernel
theorem dX9_run_61 : decode cX9_run 61 = .ok (.iadd, 1) := by decide +kernel
theorem dX9_run_62 : decode cX9_run 62 = .ok (.istore_n 3, 1) := by decide +kernel
theorem dX9_run_63 : decode cX9_run 63 = .ok (.iload_n 3, 1) := by decide +kernel
theorem dX9_run_64 : decode cX9_run 64 = .ok (.bipush 16, 2) := by decide +kernel
theorem dX9_run_66 : decode cX9_run 66 = .ok (.iushr, 1) := by decide +kernel
theorem dX9_run_67 : decode cX9_run 67 = .ok (.iload 5, 2) := by decide +kernel
theorem dX9_run_69 : decode cX9_run 69 = .ok (.invokestatic 266, 3) := by decide +kernel
theorem dX9_run_72 : decode cX9_run 72 = .ok (.irem, 1) := by decide +kernel
theorem dX9_run_73 : decode cX9_run 73 = .ok (.istore 6, 2) := by decide +kernel
theorem dX9_run_75 : decode cX9_run 75 = .ok (.iconst 0, 1) := by decide +kernel
theorem dX9_run_76 : decode cX9_run 76 = .ok (.istore 7, 2) := by decide +kernel
theorem dX9_run_78 : decode cX9_run 78 = .ok (.iload 5, 2) := by decide +kernel
theorem dX9_run_80 : decode cX9_run 80 = .ok (.iload 7, 2) := by decide +kernel
theorem dX9_run_82 : decode cX9_run 82 = .ok (.invokestatic 140, 3) := by decide +kernel
theorem dX9_run_85 : decode cX9_run 85 = .ok (.ifCond .eq 8, 3) := by decide +kernel
theorem dX9_run_88 : decode cX9_run 88 = .ok (.iload 6, 2) := by decide +kernel
theorem dX9_run_90 : decode cX9_run 90 = .ok (.ifCond .le 29, 3) := by decide +kernel
theorem dX9_run_93 : decode cX9_run 93 = .ok (.iload 6, 2) := by decide +kernel
theorem dX9_run_95 : decode cX9_run 95 = .ok (.iload 5, 2) := by decide +kernel
theorem dX9_run_97 : decode cX9_run 97 = .ok (.iload 7, 2) := by decide +kernel
theorem dX9_run_99 : decode cX9_run 99 = .ok (.invokestatic 140, 3) := by decide +kernel
theorem dX9_run_102 : decode cX9_run 102 = .ok (.ifCond .eq 7, 3) := by decide +kernel
theorem dX9_run_105 : decode cX9_run 105 = .ok (.iconst 1, 1) := by decide +kernel
theorem dX9_run_106 : decode cX9_run 106 = .ok (.goto 4, 3) := by decide +kernel
theorem dX9_run_109 : decode cX9_run 109 = .ok (.iconst 0, 1) := by decide +kernel
theorem dX9_run_110 : decode cX9_run 110 = .ok (.isub, 1) := by decide +kernel
theorem dX9_run_111 : decode cX9_run 111 = .ok (.istore 6, 2) := by decide +kernel
theorem dX9_run_113 : decode cX9_run 113 = .ok (.iinc 7 1, 3) := by decide +kernel
theorem dX9_run_116 : decode cX9_run 116 = .ok (.goto (-38), 3) := by decide +kernel
theorem dX9_run_119 : decode cX9_run 119 = .ok (.aload_n 0, 1) := by decide +kernel
theorem dX9_run_120 : decode cX9_run 120 = .ok (.iload 7, 2) := by decide +kernel
theorem dX9_run_122 : decode cX9_run 122 = .ok (.invokevirtual 299, 3) := by decide +kernel
theorem dX9_run_125 : decode cX9_run 125 = .ok (.iinc 4 1, 3) := by decide +kernel
theorem dX9_run_128 : decode cX9_run 128 = .ok (.aload_n 0, 1) := by decide +kernel
theorem dX9_run_129 : decode cX9_run 129 = .ok (.invokevirtual 302, 3) := by decide +kernel
theorem dX9_run_132 : decode cX9_run 132 = .ok (.istore 5, 2) := by decide +kernel
theorem dX9_run_134 : decode cX9_run 134 = .ok (.goto (-92), 3) := by decide +kernel
theorem dX9_run_137 : decode cX9_run 137 = .ok (.aload_n 0, 1) := by decide +kernel
theorem dX9_run_138 : decode cX9_run 138 = .ok (.invokevirtual 263, 3) := by decide +kernel
theorem dX9_run_141 : decode cX9_run 141 = .ok (.iload 4, 2) := by decide +kernel
theorem dX9_run_143 : decode cX9_run 143 = .ok (.ireturn, 1) := by decide +kernel
theorem dX9_can_0 : decode cX9_can 0 = .ok (.aload_n 0, 1) := by decide +kernel
theorem dX9_can_1 : decode cX9_can 1 = .ok (.iconst 0, 1) := by decide +kernel
theorem dX9_can_2 : decode cX9_can 2 = .ok (.putfield 133, 3) := by decide +kernel
theorem dX9_can_5 : decode cX9_can 5 = .ok (.aload_n 0, 1) := by decide +kernel
theorem dX9_can_6 : decode cX9_can 6 = .ok (.invokevirtual 302, 3) := by decide +kernel
theorem dX9_can_9 : decode cX9_can 9 = .ok (.ireturn, 1) := by decide +kernel
theorem dX9_common_0 : decode cX9_common 0 = .ok (.lload_n 0, 1) := by decide +kernel
theorem dX9_common_1 : decode cX9_common 1 = .ok (.lconst 0, 1) := by decide +kernel
theorem dX9_common_2 : decode cX9_common 2 = .ok (.lcmp, 1) := by decide +kernel
theorem dX9_common_3 : decode cX9_common 3 = .ok (.ifCond .ge 8, 3) := by decide +kernel
theorem dX9_common_6 : decode cX9_common 6 = .ok (.lload_n 0, 1) := by decide +kernel
theorem dX9_common_7 : decode cX9_common 7 = .ok (.lneg, 1) := by decide +kernel
theorem dX9_common_8 : decode cX9_common 8 = .ok (.goto 4, 3) := by decide +kernel
theorem dX9_common_11 : decode cX9_common 11 = .ok (.lload_n 0, 1) := by decide +kernel
theorem dX9_common_12 : decode cX9_common 12 = .ok (.lstore 4, 2) := by decide +kernel
theorem dX9_common_14 : decode cX9_common 14 = .ok (.lload_n 2, 1) := by decide +kernel
theorem dX9_common_15 : decode cX9_common 15 = .ok (.lconst 0, 1) := by decide +kernel
theorem dX9_common_16 : decode cX9_common 16 = .ok (.lcmp, 1) := by decide +kernel
theorem dX9_common_17 : decode cX9_common 17 = .ok (.ifCond .ge 8, 3) := by decide +kernel
theorem dX9_common_20 : decode cX9_common 20 = .ok (.lload_n 2, 1) := by decide +kernel
theorem dX9_common_21 : decode cX9_common 21 = .ok (.lneg, 1) := by decide +kernel
theorem dX9_common_22 : decode cX9_common 22 = .ok (.goto 4, 3) := by decide +kernel
theorem dX9_common_25 : decode cX9_common 25 = .ok (.lload_n 2, 1) := by decide +kernel
theorem dX9_common_26 : decode cX9_common 26 = .ok (.lstore 6, 2) := by decide +kernel
theorem dX9_common_28 : decode cX9_common 28 = .ok (.lload 6, 2) := by decide +kernel
theorem dX9_common_30 : decode cX9_common 30 = .ok (.lconst 0, 1) := by decide +kernel
theorem dX9_common_31 : decode cX9_common 31 = .ok (.lcmp, 1) := by decide +kernel
theorem dX9_common_32 : decode cX9_common 32 = .ok (.ifCond .eq 21, 3) := by decide +kernel
theorem dX9_common_35 : decode cX9_common 35 = .ok (.lload 4, 2) := by decide +kernel
theorem dX9_common_37 : decode cX9_common 37 = .ok (.lload 6, 2) := by decide +kernel
theorem dX9_common_39 : decode cX9_common 39 = .ok (.lrem, 1) := by decide +kernel
theorem dX9_common_40 : decode cX9_common 40 = .ok (.lstore 8, 2) := by decide +kernel
theorem dX9_common_42 : decode cX9_common 42 = .ok (.lload 6, 2) := by decide +kernel
theorem dX9_common_44 : decode cX9_common 44 = .ok (.lstore 4, 2) := by decide +kernel
theorem dX9_common_46 : decode cX9_common 46 = .ok (.lload 8, 2) := by decide +kernel
theorem dX9_common_48 : decode cX9_common 48 = .ok (.lstore 6, 2) := by decide +kernel
theorem dX9_common_50 : decode cX9_common 50 = .ok (.goto (-22), 3) := by decide +kernel
theorem dX9_common_53 : decode cX9_common 53 = .ok (.lload 4, 2) := by decide +kernel
theorem dX9_common_55 : decode cX9_common 55 = .ok (.lreturn, 1) := by decide +kernel
theorem dX9_layRows_0 : decode cX9_layRows 0 = .ok (.iconst 0, 1) := by decide +kernel
theorem dX9_layRows_1 : decode cX9_layRows 1 = .ok (.istore_n 3, 1) := by decide +kernel
theorem dX9_layRows_2 : decode cX9_layRows 2 = .ok (.iload_n 3, 1) := by decide +kernel
theorem dX9_layRows_3 : decode cX9_layRows 3 = .ok (.bipush 10, 2) := by decide +kernel
theorem dX9_layRows_5 : decode cX9_layRows 5 = .ok (.if_icmp .ge 91, 3) := by decide +kernel
theorem dX9_layRows_8 : decode cX9_layRows 8 = .ok (.iconst 0, 1) := by decide +kernel
theorem dX9_layRows_9 : decode cX9_layRows 9 = .ok (.istore 4, 2) := by decide +kernel
theorem dX9_layRows_11 : decode cX9_layRows 11 = .ok (.iload 4, 2) := by decide +kernel
theorem dX9_layRows_13 : decode cX9_layRows 13 = .ok (.bipush 10, 2) := by decide +kernel
theorem dX9_layRows_15 : decode cX9_layRows 15 = .ok (.if_icmp .ge 75, 3) := by decide +kernel
theorem dX9_layRows_18 : decode cX9_layRows 18 = .ok (.iload_n 1, 1) := by decide +kernel
theorem dX9_layRows_19 : decode cX9_layRows 19 = .ok (.ifCond .ne 7, 3) := by decide +kernel
theorem dX9_layRows_22 : decode cX9_layRows 22 = .ok (.iload_n 3, 1) := by decide +kernel
theorem dX9_layRows_23 : decode cX9_layRows 23 = .ok (.goto 5, 3) := by decide +kernel
theorem dX9_layRows_26 : decode cX9_layRows 26 = .ok (.iload 4, 2) := by decide +kernel
theorem dX9_layRows_28 : decode cX9_layRows 28 = .ok (.istore 5, 2) := by decide +kernel
theorem dX9_layRows_30 : decode cX9_layRows 30 = .ok (.iload_n 1, 1) := by decide +kernel
theorem dX9_layRows_31 : decode cX9_layRows 31 = .ok (.ifCond .ne 8, 3) := by decide +kernel
theorem dX9_layRows_34 : decode cX9_layRows 34 = .ok (.iload 4, 2) := by decide +kernel
theorem dX9_layRows_36 : decode cX9_layRows 36 = .ok (.goto 4, 3) := by decide +kernel
theorem dX9_layRows_39 : decode cX9_layRows 39 = .ok (.iload_n 3, 1) := by decide +kernel
theorem dX9_layRows_40 : decode cX9_layRows 40 = .ok (.istore 6, 2) := by decide +kernel
theorem dX9_layRows_42 : decode cX9_layRows 42 = .ok (.aload_n 0, 1) := by decide +kernel
theorem dX9_layRows_43 : decode cX9_layRows 43 = .ok (.getfield 44, 3) := by decide +kernel
theorem dX9_layRows_46 : decode cX9_layRows 46 = .ok (.bipush 10, 2) := by decide +kernel
theorem dX9_layRows_48 : decode cX9_layRows 48 = .ok (.iload_n 3, 1) := by decide +kernel
theorem dX9_layRows_49 : decode cX9_layRows 49 = .ok (.imul, 1) := by decide +kernel
theorem dX9_layRows_50 : decode cX9_layRows 50 = .ok (.iload 4, 2) := by decide +kernel
theorem dX9_layRows_52 : decode cX9_layRows 52 = .ok (.iadd, 1) := by decide +kernel
theorem dX9_layRows_53 : decode cX9_layRows 53 = .ok (.iload 5, 2) := by decide +kernel
theorem dX9_layRows_55 : decode cX9_layRows 55 = .ok (.bipush 8, 2) := by decide +kernel
theorem dX9_layRows_57 : decode cX9_layRows 57 = .ok (.if_icmp .ge 25, 3) := by decide +kernel
theorem dX9_layRows_60 : decode cX9_layRows 60 = .ok (.iload_n 2, 1) := by decide +kernel
theorem dX9_layRows_61 : decode cX9_layRows 61 = .ok (.iload 4, 2) := by decide +kernel
theorem dX9_layRows_63 : decode cX9_layRows 63 = .ok (.invokestatic 140, 3) := by decide +kernel
theorem dX9_layRows_66 : decode cX9_layRows 66 = .ok (.ifCond .eq 16, 3) := by decide +kernel
theorem dX9_layRows_69 : decode cX9_layRows 69 = .ok (.aload_n 0, 1) := by decide +kernel
theorem dX9_layRows_70 : decode cX9_layRows 70 = .ok (.iconst 0, 1) := by decide +kernel
theorem dX9_layRows_71 : decode cX9_layRows 71 = .ok (.iload 5, 2) := by decide +kernel
theorem dX9_layRows_73 : decode cX9_layRows 73 = .ok (.iload 6, 2) := by decide +kernel
theorem dX9_layRows_75 : decode cX9_layRows 75 = .ok (.invokevirtual 279, 3) := by decide +kernel
theorem dX9_layRows_78 : decode cX9_layRows 78 = .ok (.i2l, 1) := by decide +kernel
theorem dX9_layRows_79 : decode cX9_layRows 79 = .ok (.goto 4, 3) := by decide +kernel
theorem dX9_layRows_82 : decode cX9_layRows 82 = .ok (.lconst 0, 1) := by decide +kernel
theorem dX9_layRows_83 : decode cX9_layRows 83 = .ok (.lastore, 1) := by decide +kernel
theorem dX9_layRows_84 : decode cX9_layRows 84 = .ok (.iinc 4 1, 3) := by decide +kernel
theorem dX9_layRows_87 : decode cX9_layRows 87 = .ok (.goto (-76), 3) := by decide +kernel
theorem dX9_layRows_90 : decode cX9_layRows 90 = .ok (.iinc 3 1, 3) := by decide +kernel
theorem dX9_layRows_93 : decode cX9_layRows 93 = .ok (.goto (-91), 3) := by decide +kernel
theorem dX9_layRows_96 : decode cX9_layRows 96 = .ok (.return_, 1) := by decide +kernel
theorem dX9_swaps_0 : decode cX9_swaps 0 = .ok (.iconst 0, 1) := by decide +kernel
theorem dX9_swaps_1 : decode cX9_swaps 1 = .ok (.istore_n 3, 1) := by decide +kernel
theorem dX9_swaps_2 : decode cX9_swaps 2 = .ok (.iload_n 3, 1) := by decide +kernel
theorem dX9_swaps_3 : decode cX9_swaps 3 = .ok (.bipush 10, 2) := by decide +kernel
theorem dX9_swaps_5 : decode cX9_swaps 5 = .ok (.if_icmp .ge 57, 3) := by decide +kernel
theorem dX9_swaps_8 : decode cX9_swaps 8 = .ok (.aload_n 0, 1) := by decide +kernel
theorem dX9_swaps_9 : decode cX9_swaps 9 = .ok (.getfield 44, 3) := by decide +kernel
theorem dX9_swaps_12 : decode cX9_swaps 12 = .ok (.bipush 10, 2) := by decide +kernel
theorem dX9_swaps_14 : decode cX9_swaps 14 = .ok (.iload_n 1, 1) := by decide +kernel
theorem dX9_swaps_15 : decode cX9_swaps 15 = .ok (.imul, 1) := by decide +kernel
theorem dX9_swaps_16 : decode cX9_swaps 16 = .ok (.iload_n 3, 1) := by decide +kernel
theorem dX9_swaps_17 : decode cX9_swaps 17 = .ok (.iadd, 1) := by decide +kernel
theorem dX9_swaps_18 : decode cX9_swaps 18 = .ok (.laload, 1) := by decide +kernel
theorem dX9_swaps_19 : decode cX9_swaps 19 = .ok (.lstore 4, 2) := by decide +kernel
theorem dX9_swaps_21 : decode cX9_swaps 21 = .ok (.aload_n 0, 1) := by decide +kernel
theorem dX9_swaps_22 : decode cX9_swaps 22 = .ok (.getfield 44, 3) := by decide +kernel
theorem dX9_swaps_25 : decode cX9_swaps 25 = .ok (.bipush 10, 2) := by decide +kernel
theorem dX9_swaps_27 : decode cX9_swaps 27 = .ok (.iload_n 1, 1) := by decide +kernel
theorem dX9_swaps_28 : decode cX9_swaps 28 = .ok (.imul, 1) := by decide +kernel
theorem dX9_swaps_29 : decode cX9_swaps 29 = .ok (.iload_n 3, 1) := by decide +kernel
theorem dX9_swaps_30 : decode cX9_swaps 30 = .ok (.iadd, 1) := by decide +kernel
theorem dX9_swaps_31 : decode cX9_swaps 31 = .ok (.aload_n 0, 1) := by decide +kernel
theorem dX9_swaps_32 : decode cX9_swaps 32 = .ok (.getfield 44, 3) := by decide +kernel
theorem dX9_swaps_35 : decode cX9_swaps 35 = .ok (.bipush 10, 2) := by decide +kernel
theorem dX9_swaps_37 : decode cX9_swaps 37 = .ok (.iload_n 2, 1) := by decide +kernel
theorem dX9_swaps_38 : decode cX9_swaps 38 = .ok (.imul, 1) := by decide +kernel
theorem dX9_swaps_39 : decode cX9_swaps 39 = .ok (.iload_n 3, 1) := by decide +kernel
theorem dX9_swaps_40 : decode cX9_swaps 40 = .ok (.iadd, 1) := by decide +kernel
theorem dX9_swaps_41 : decode cX9_swaps 41 = .ok (.laload, 1) := by decide +kernel
theorem dX9_swaps_42 : decode cX9_swaps 42 = .ok (.lastore, 1) := by decide +kernel
theorem dX9_swaps_43 : decode cX9_swaps 43 = .ok (.aload_n 0, 1) := by decide +kernel
theorem dX9_swaps_44 : decode cX9_swaps 44 = .ok (.getfield 44, 3) := by decide +kernel
theorem dX9_swaps_47 : decode cX9_swaps 47 = .ok (.bipush 10, 2) := by decide +kernel
theorem dX9_swaps_49 : decode cX9_swaps 49 = .ok (.iload_n 2, 1) := by decide +kernel
theorem dX9_swaps_50 : decode cX9_swaps 50 = .ok (.imul, 1) := by decide +kernel
theorem dX9_swaps_51 : decode cX9_swaps 51 = .ok (.iload_n 3, 1) := by decide +kernel
theorem dX9_swaps_52 : decode cX9_swaps 52 = .ok (.iadd, 1) := by decide +kernel
theorem dX9_swaps_53 : decode cX9_swaps 53 = .ok (.lload 4, 2) := by decide +kernel
theorem dX9_swaps_55 : decode cX9_swaps 55 = .ok (.lastore, 1) := by decide +kernel
theorem dX9_swaps_56 : decode cX9_swaps 56 = .ok (.iinc 3 1, 3) := by decide +kernel
theorem dX9_swaps_59 : decode cX9_swaps 59 = .ok (.goto (-57), 3) := by decide +kernel
theorem dX9_swaps_62 : decode cX9_swaps 62 = .ok (.return_, 1) := by decide +kernel
theorem dX9_lessens_0 : decode cX9_lessens 0 = .ok (.aload_n 0, 1) := by decide +kernel
theorem dX9_lessens_1 : decode cX9_lessens 1 = .ok (.getfield 44, 3) := by decide +kernel
theorem dX9_lessens_4 : decode cX9_lessens 4 = .ok (.bipush 10, 2) := by decide +kernel
theorem dX9_lessens_6 : decode cX9_lessens 6 = .ok (.iload_n 2, 1) := by decide +kernel
theorem dX9_lessens_7 : decode cX9_lessens 7 = .ok (.imul, 1) := by decide +kernel
theorem dX9_lessens_8 : decode cX9_lessens 8 = .ok (.iload_n 3, 1) := by decide +kernel
theorem dX9_lessens_9 : decode cX9_lessens 9 = .ok (.iadd, 1) := by decide +kernel
theorem dX9_lessens_10 : decode cX9_lessens 10 = .ok (.laload, 1) := by decide +kernel
theorem dX9_lessens_11 : decode cX9_lessens 11 = .ok (.lstore 4, 2) := by decide +kernel
theorem dX9_lessens_13 : decode cX9_lessens 13 = .ok (.aload_n 0, 1) := by decide +kernel
theorem dX9_lessens_14 : decode cX9_lessens 14 = .ok (.getfield 44, 3) := by decide +kernel
theorem dX9_lessens_17 : decode cX9_lessens 17 = .ok (.bipush 10, 2) := by decide +kernel
theorem dX9_lessens_19 : decode cX9_lessens 19 = .ok (.iload_n 1, 1) := by decide +kernel
theorem dX9_lessens_20 : decode cX9_lessens 20 = .ok (.imul, 1) := by decide +kernel
theorem dX9_lessens_21 : decode cX9_lessens 21 = .ok (.iload_n 3, 1) := by decide +kernel
theorem dX9_lessens_22 : decode cX9_lessens 22 = .ok (.iadd, 1) := by decide +kernel
theorem dX9_lessens_23 : decode cX9_lessens 23 = .ok (.laload, 1) := by decide +kernel
theorem dX9_lessens_24 : decode cX9_lessens 24 = .ok (.lstore 6, 2) := by decide +kernel
theorem dX9_lessens_26 : decode cX9_lessens 26 = .ok (.lconst 0, 1) := by decide +kernel
theorem dX9_lessens_27 : decode cX9_lessens 27 = .ok (.lstore 8, 2) := by decide +kernel
theorem dX9_lessens_29 : decode cX9_lessens 29 = .ok (.iconst 0, 1) := by decide +kernel
theorem dX9_lessens_30 : decode cX9_lessens 30 = .ok (.istore 10, 2) := by decide +kernel
theorem dX9_lessens_32 : decode cX9_lessens 32 = .ok (.iload 10, 2) := by decide +kernel
theorem dX9_lessens_34 : decode cX9_lessens 34 = .ok (.bipush 10, 2) := by decide +kernel
theorem dX9_lessens_36 : decode cX9_lessens 36 = .ok (.if_icmp .ge 71, 3) := by decide +kernel
theorem dX9_lessens_39 : decode cX9_lessens 39 = .ok (.aload_n 0, 1) := by decide +kernel
theorem dX9_lessens_40 : decode cX9_lessens 40 = .ok (.getfield 44, 3) := by decide +kernel
theorem dX9_lessens_43 : decode cX9_lessens 43 = .ok (.bipush 10, 2) := by decide +kernel
theorem dX9_lessens_45 : decode cX9_lessens 45 = .ok (.iload_n 1, 1) := by decide +kernel
theorem dX9_lessens_46 : decode cX9_lessens 46 = .ok (.imul, 1) := by decide +kernel
theorem dX9_lessens_47 : decode cX9_lessens 47 = .ok (.iload 10, 2) := by decide +kernel
theorem dX9_lessens_49 : decode cX9_lessens 49 = .ok (.iadd, 1) := by decide +kernel
theorem dX9_lessens_50 : decode cX9_lessens 50 = .ok (.aload_n 0, 1) := by decide +kernel
theorem dX9_lessens_51 : decode cX9_lessens 51 = .ok (.getfield 44, 3) := by decide +kernel
theorem dX9_lessens_54 : decode cX9_lessens 54 = .ok (.bipush 10, 2) := by decide +kernel
theorem dX9_lessens_56 : decode cX9_lessens 56 = .ok (.iload_n 1, 1) := by decide +kernel
theorem dX9_lessens_57 : decode cX9_lessens 57 = .ok (.imul, 1) := by decide +kernel
theorem dX9_lessens_58 : decode cX9_lessens 58 = .ok (.iload 10, 2) := by decide +kernel
theorem dX9_lessens_60 : decode cX9_lessens 60 = .ok (.iadd, 1) := by decide +kernel
theorem dX9_lessens_61 : decode cX9_lessens 61 = .ok (.laload, 1) := by decide +kernel
theorem dX9_lessens_62 : decode cX9_lessens 62 = .ok (.lload 4, 2) := by decide +kernel
theorem dX9_lessens_64 : decode cX9_lessens 64 = .ok (.lmul, 1) := by decide +kernel
theorem dX9_lessens_65 : decode cX9_lessens 65 = .ok (.aload_n 0, 1) := by decide +kernel
theorem dX9_lessens_66 : decode cX9_lessens 66 = .ok (.getfield 44, 3) := by decide +kernel
theorem dX9_lessens_69 : decode cX9_lessens 69 = .ok (.bipush 10, 2) := by decide +kernel
theorem dX9_lessens_71 : decode cX9_lessens 71 = .ok (.iload_n 2, 1) := by decide +kernel
theorem dX9_lessens_72 : decode cX9_lessens 72 = .ok (.imul, 1) := by decide +kernel
theorem dX9_lessens_73 : decode cX9_lessens 73 = .ok (.iload 10, 2) := by decide +kernel
theorem dX9_lessens_75 : decode cX9_lessens 75 = .ok (.iadd, 1) := by decide +kernel
theorem dX9_lessens_76 : decode cX9_lessens 76 = .ok (.laload, 1) := by decide +kernel
theorem dX9_lessens_77 : decode cX9_lessens 77 = .ok (.lload 6, 2) := by decide +kernel
theorem dX9_lessens_79 : decode cX9_lessens 79 = .ok (.lmul, 1) := by decide +kernel
theorem dX9_lessens_80 : decode cX9_lessens 80 = .ok (.lsub, 1) := by decide +kernel
theorem dX9_lessens_81 : decode cX9_lessens 81 = .ok (.lastore, 1) := by decide +kernel
theorem dX9_lessens_82 : decode cX9_lessens 82 = .ok (.lload 8, 2) := by decide +kernel
theorem dX9_lessens_84 : decode cX9_lessens 84 = .ok (.aload_n 0, 1) := by decide +kernel
theorem dX9_lessens_85 : decode cX9_lessens 85 = .ok (.getfield 44, 3) := by decide +kernel
theorem dX9_lessens_88 : decode cX9_lessens 88 = .ok (.bipush 10, 2) := by decide +kernel
theorem dX9_lessens_90 : decode cX9_lessens 90 = .ok (.iload_n 1, 1) := by decide +kernel
theorem dX9_lessens_91 : decode cX9_lessens 91 = .ok (.imul, 1) := by decide +kernel
theorem dX9_lessens_92 : decode cX9_lessens 92 = .ok (.iload 10, 2) := by decide +kernel
theorem dX9_lessens_94 : decode cX9_lessens 94 = .ok (.iadd, 1) := by decide +kernel
theorem dX9_lessens_95 : decode cX9_lessens 95 = .ok (.laload, 1) := by decide +kernel
theorem dX9_lessens_96 : decode cX9_lessens 96 = .ok (.invokestatic 306, 3) := by decide +kernel
theorem dX9_lessens_99 : decode cX9_lessens 99 = .ok (.lstore 8, 2) := by decide +kernel
theorem dX9_lessens_101 : decode cX9_lessens 101 = .ok (.iinc 10 1, 3) := by decide +kernel
theorem dX9_lessens_104 : decode cX9_lessens 104 = .ok (.goto (-72), 3) := by decide +kernel
theorem dX9_lessens_107 : decode cX9_lessens 107 = .ok (.iconst 0, 1) := by decide +kernel
theorem dX9_lessens_108 : decode cX9_lessens 108 = .ok (.istore 10, 2) := by decide +kernel
theorem dX9_lessens_110 : decode cX9_lessens 110 = .ok (.iload 10, 2) := by decide +kernel
theorem dX9_lessens_112 : decode cX9_lessens 112 = .ok (.bipush 10, 2) := by decide +kernel
theorem dX9_lessens_114 : decode cX9_lessens 114 = .ok (.if_icmp .ge 33, 3) := by decide +kernel
theorem dX9_lessens_117 : decode cX9_lessens 117 = .ok (.lload 8, 2) := by decide +kernel
theorem dX9_lessens_119 : decode cX9_lessens 119 = .ok (.lconst 1, 1) := by decide +kernel
theorem dX9_lessens_120 : decode cX9_lessens 120 = .ok (.lcmp, 1) := by decide +kernel
theorem dX9_lessens_121 : decode cX9_lessens 121 = .ok (.ifCond .le 26, 3) := by decide +kernel
theorem dX9_lessens_124 : decode cX9_lessens 124 = .ok (.aload_n 0, 1) := by decide +kernel
theorem dX9_lessens_125 : decode cX9_lessens 125 = .ok (.getfield 44, 3) := by decide +kernel
theorem dX9_lessens_128 : decode cX9_lessens 128 = .ok (.bipush 10, 2) := by decide +kernel
theorem dX9_lessens_130 : decode cX9_lessens 130 = .ok (.iload_n 1, 1) := by decide +kernel
theorem dX9_lessens_131 : decode cX9_lessens 131 = .ok (.imul, 1) := by decide +kernel
theorem dX9_lessens_132 : decode cX9_lessens 132 = .ok (.iload 10, 2) := by decide +kernel
theorem dX9_lessens_134 : decode cX9_lessens 134 = .ok (.iadd, 1) := by decide +kernel
theorem dX9_lessens_135 : decode cX9_lessens 135 = .ok (.dup2, 1) := by decide +kernel
theorem dX9_lessens_136 : decode cX9_lessens 136 = .ok (.laload, 1) := by decide +kernel
theorem dX9_lessens_137 : decode cX9_lessens 137 = .ok (.lload 8, 2) := by decide +kernel
theorem dX9_lessens_139 : decode cX9_lessens 139 = .ok (.ldiv, 1) := by decide +kernel
theorem dX9_lessens_140 : decode cX9_lessens 140 = .ok (.lastore, 1) := by decide +kernel
theorem dX9_lessens_141 : decode cX9_lessens 141 = .ok (.iinc 10 1, 3) := by decide +kernel
theorem dX9_lessens_144 : decode cX9_lessens 144 = .ok (.goto (-34), 3) := by decide +kernel
theorem dX9_lessens_147 : decode cX9_lessens 147 = .ok (.return_, 1) := by decide +kernel
theorem dX9_eliminates_0 : decode cX9_eliminates 0 = .ok (.iconst 0, 1) := by decide +kernel
theorem dX9_eliminates_1 : decode cX9_eliminates 1 = .ok (.istore_n 1, 1) := by decide +kernel
theorem dX9_eliminates_2 : decode cX9_eliminates 2 = .ok (.iconst 0, 1) := by decide +kernel
theorem dX9_eliminates_3 : decode cX9_eliminates 3 = .ok (.istore_n 2, 1) := by decide +kernel
theorem dX9_eliminates_4 : decode cX9_eliminates 4 = .ok (.iload_n 2, 1) := by decide +kernel
theorem dX9_eliminates_5 : decode cX9_eliminates 5 = .ok (.bipush 10, 2) := by decide +kernel
theorem dX9_eliminates_7 : decode cX9_eliminates 7 = .ok (.if_icmp .ge 118, 3) := by decide +kernel
theorem dX9_eliminates_10 : decode cX9_eliminates 10 = .ok (.aload_n 0, 1) := by decide +kernel
theorem dX9_eliminates_11 : decode cX9_eliminates 11 = .ok (.getfield 51, 3) := by decide +kernel
theorem dX9_eliminates_14 : decode cX9_eliminates 14 = .ok (.iload_n 2, 1) := by decide +kernel
theorem dX9_eliminates_15 : decode cX9_eliminates 15 = .ok (.iconst (-1), 1) := by decide +kernel
theorem dX9_eliminates_16 : decode cX9_eliminates 16 = .ok (.iastore, 1) := by decide +kernel
theorem dX9_eliminates_17 : decode cX9_eliminates 17 = .ok (.iload_n 1, 1) := by decide +kernel
theorem dX9_eliminates_18 : decode cX9_eliminates 18 = .ok (.istore_n 3, 1) := by decide +kernel
theorem dX9_eliminates_19 : decode cX9_eliminates 19 = .ok (.iload_n 3, 1) := by decide +kernel
theorem dX9_eliminates_20 : decode cX9_eliminates 20 = .ok (.bipush 10, 2) := by decide +kernel
theorem dX9_eliminates_22 : decode cX9_eliminates 22 = .ok (.if_icmp .ge 25, 3) := by decide +kernel
theorem dX9_eliminates_25 : decode cX9_eliminates 25 = .ok (.aload_n 0, 1) := by decide +kernel
theorem dX9_eliminates_26 : decode cX9_eliminates 26 = .ok (.getfield 44, 3) := by decide +kernel
theorem dX9_eliminates_29 : decode cX9_eliminates 29 = .ok (.bipush 10, 2) := by decide +kernel
theorem dX9_eliminates_31 : decode cX9_eliminates 31 = .ok (.iload_n 3, 1) := by decide +kernel
theorem dX9_eliminates_32 : decode cX9_eliminates 32 = .ok (.imul, 1) := by decide +kernel
theorem dX9_eliminates_33 : decode cX9_eliminates 33 = .ok (.iload_n 2, 1) := by decide +kernel
theorem dX9_eliminates_34 : decode cX9_eliminates 34 = .ok (.iadd, 1) := by decide +kernel
theorem dX9_eliminates_35 : decode cX9_eliminates 35 = .ok (.laload, 1) := by decide +kernel
theorem dX9_eliminates_36 : decode cX9_eliminates 36 = .ok (.lconst 0, 1) := by decide +kernel
theorem dX9_eliminates_37 : decode cX9_eliminates 37 = .ok (.lcmp, 1) := by decide +kernel
theorem dX9_eliminates_38 : decode cX9_eliminates 38 = .ok (.ifCond .ne 9, 3) := by decide +kernel
theorem dX9_eliminates_41 : decode cX9_eliminates 41 = .ok (.iinc 3 1, 3) := by decide +kernel
theorem dX9_eliminates_44 : decode cX9_eliminates 44 = .ok (.goto (-25), 3) := by decide +kernel
theorem dX9_eliminates_47 : decode cX9_eliminates 47 = .ok (.iload_n 3, 1) := by decide +kernel
theorem dX9_eliminates_48 : decode cX9_eliminates 48 = .ok (.bipush 10, 2) := by decide +kernel
theorem dX9_eliminates_50 : decode cX9_eliminates 50 = .ok (.if_icmp .ne 6, 3) := by decide +kernel
theorem dX9_eliminates_53 : decode cX9_eliminates 53 = .ok (.goto 66, 3) := by decide +kernel
theorem dX9_eliminates_56 : decode cX9_eliminates 56 = .ok (.aload_n 0, 1) := by decide +kernel
theorem dX9_eliminates_57 : decode cX9_eliminates 57 = .ok (.iload_n 3, 1) := by decide +kernel
theorem dX9_eliminates_58 : decode cX9_eliminates 58 = .ok (.iload_n 1, 1) := by decide +kernel
theorem dX9_eliminates_59 : decode cX9_eliminates 59 = .ok (.invokevirtual 310, 3) := by decide +kernel
theorem dX9_eliminates_62 : decode cX9_eliminates 62 = .ok (.iconst 0, 1) := by decide +kernel
theorem dX9_eliminates_63 : decode cX9_eliminates 63 = .ok (.istore 4, 2) := by decide +kernel
theorem dX9_eliminates_65 : decode cX9_eliminates 65 = .ok (.iload 4, 2) := by decide +kernel
theorem dX9_eliminates_67 : decode cX9_eliminates 67 = .ok (.bipush 10, 2) := by decide +kernel
theorem dX9_eliminates_69 : decode cX9_eliminates 69 = .ok (.if_icmp .ge 40, 3) := by decide +kernel
theorem dX9_eliminates_72 : decode cX9_eliminates 72 = .ok (.iload 4, 2) := by decide +kernel
theorem dX9_eliminates_74 : decode cX9_eliminates 74 = .ok (.iload_n 1, 1) := by decide +kernel
theorem dX9_eliminates_75 : decode cX9_eliminates 75 = .ok (.if_icmp .eq 28, 3) := by decide +kernel
theorem dX9_eliminates_78 : decode cX9_eliminates 78 = .ok (.aload_n 0, 1) := by decide +kernel
theorem dX9_eliminates_79 : decode cX9_eliminates 79 = .ok (.getfield 44, 3) := by decide +kernel
theorem dX9_eliminates_82 : decode cX9_eliminates 82 = .ok (.bipush 10, 2) := by decide +kernel
theorem dX9_eliminates_84 : decode cX9_eliminates 84 = .ok (.iload 4, 2) := by decide +kernel
theorem dX9_eliminates_86 : decode cX9_eliminates 86 = .ok (.imul, 1) := by decide +kernel
theorem dX9_eliminates_87 : decode cX9_eliminates 87 = .ok (.iload_n 2, 1) := by decide +kernel
theorem dX9_eliminates_88 : decode cX9_eliminates 88 = .ok (.iadd, 1) := by decide +kernel
theorem dX9_eliminates_89 : decode cX9_eliminates 89 = .ok (.laload, 1) := by decide +kernel
theorem dX9_eliminates_90 : decode cX9_eliminates 90 = .ok (.lconst 0, 1) := by decide +kernel
theorem dX9_eliminates_91 : decode cX9_eliminates 91 = .ok (.lcmp, 1) := by decide +kernel
theorem dX9_eliminates_92 : decode cX9_eliminates 92 = .ok (.ifCond .eq 11, 3) := by decide +kernel
theorem dX9_eliminates_95 : decode cX9_eliminates 95 = .ok (.aload_n 0, 1) := by decide +kernel
theorem dX9_eliminates_96 : decode cX9_eliminates 96 = .ok (.iload 4, 2) := by decide +kernel
theorem dX9_eliminates_98 : decode cX9_eliminates 98 = .ok (.iload_n 1, 1) := by decide +kernel
theorem dX9_eliminates_99 : decode cX9_eliminates 99 = .ok (.iload_n 2, 1) := by decide +kernel
theorem dX9_eliminates_100 : decode cX9_eliminates 100 = .ok (.invokevirtual 313, 3) := by decide +kernel
theorem dX9_eliminates_103 : decode cX9_eliminates 103 = .ok (.iinc 4 1, 3) := by decide +kernel
theorem dX9_eliminates_106 : decode cX9_eliminates 106 = .ok (.goto (-41), 3) := by decide +kernel
theorem dX9_eliminates_109 : decode cX9_eliminates 109 = .ok (.aload_n 0, 1) := by decide +kernel
theorem dX9_eliminates_110 : decode cX9_eliminates 110 = .ok (.getfield 51, 3) := by decide +kernel
theorem dX9_eliminates_113 : decode cX9_eliminates 113 = .ok (.iload_n 2, 1) := by decide +kernel
theorem dX9_eliminates_114 : decode cX9_eliminates 114 = .ok (.iload_n 1, 1) := by decide +kernel
theorem dX9_eliminates_115 : decode cX9_eliminates 115 = .ok (.iastore, 1) := by decide +kernel
theorem dX9_eliminates_116 : decode cX9_eliminates 116 = .ok (.iinc 1 1, 3) := by decide +kernel
theorem dX9_eliminates_119 : decode cX9_eliminates 119 = .ok (.iinc 2 1, 3) := by decide +kernel
theorem dX9_eliminates_122 : decode cX9_eliminates 122 = .ok (.goto (-118), 3) := by decide +kernel
theorem dX9_eliminates_125 : decode cX9_eliminates 125 = .ok (.iload_n 1, 1) := by decide +kernel
theorem dX9_eliminates_126 : decode cX9_eliminates 126 = .ok (.ireturn, 1) := by decide +kernel
theorem dX9_rank_0 : decode cX9_rank 0 = .ok (.aload_n 0, 1) := by decide +kernel
theorem dX9_rank_1 : decode cX9_rank 1 = .ok (.iconst 0, 1) := by decide +kernel
theorem dX9_rank_2 : decode cX9_rank 2 = .ok (.aload_n 0, 1) := by decide +kernel
theorem dX9_rank_3 : decode cX9_rank 3 = .ok (.getfield 19, 3) := by decide +kernel
theorem dX9_rank_6 : decode cX9_rank 6 = .ok (.iconst 0, 1) := by decide +kernel
theorem dX9_rank_7 : decode cX9_rank 7 = .ok (.iaload, 1) := by decide +kernel
theorem dX9_rank_8 : decode cX9_rank 8 = .ok (.invokevirtual 317, 3) := by decide +kernel
theorem dX9_rank_11 : decode cX9_rank 11 = .ok (.aload_n 0, 1) := by decide +kernel
theorem dX9_rank_12 : decode cX9_rank 12 = .ok (.invokevirtual 320, 3) := by decide +kernel
theorem dX9_rank_15 : decode cX9_rank 15 = .ok (.ireturn, 1) := by decide +kernel
theorem dX9_solves_0 : decode cX9_solves 0 = .ok (.aload_n 0, 1) := by decide +kernel
theorem dX9_solves_1 : decode cX9_solves 1 = .ok (.iload_n 1, 1) := by decide +kernel
theorem dX9_solves_2 : decode cX9_solves 2 = .ok (.iload_n 2, 1) := by decide +kernel
theorem dX9_solves_3 : decode cX9_solves 3 = .ok (.invokevirtual 317, 3) := by decide +kernel
theorem dX9_solves_6 : decode cX9_solves 6 = .ok (.iload_n 2, 1) := by decide +kernel
theorem dX9_solves_7 : decode cX9_solves 7 = .ok (.invokestatic 266, 3) := by decide +kernel
theorem dX9_solves_10 : decode cX9_solves 10 = .ok (.aload_n 0, 1) := by decide +kernel
theorem dX9_solves_11 : decode cX9_solves 11 = .ok (.invokevirtual 320, 3) := by decide +kernel
theorem dX9_solves_14 : decode cX9_solves 14 = .ok (.isub, 1) := by decide +kernel
theorem dX9_solves_15 : decode cX9_solves 15 = .ok (.iconst 1, 1) := by decide +kernel
theorem dX9_solves_16 : decode cX9_solves 16 = .ok (.if_icmp .eq 5, 3) := by decide +kernel
theorem dX9_solves_19 : decode cX9_solves 19 = .ok (.iconst 0, 1) := by decide +kernel
theorem dX9_solves_20 : decode cX9_solves 20 = .ok (.ireturn, 1) := by decide +kernel
theorem dX9_solves_21 : decode cX9_solves 21 = .ok (.iconst 0, 1) := by decide +kernel
theorem dX9_solves_22 : decode cX9_solves 22 = .ok (.istore_n 3, 1) := by decide +kernel
theorem dX9_solves_23 : decode cX9_solves 23 = .ok (.iload_n 2, 1) := by decide +kernel
theorem dX9_solves_24 : decode cX9_solves 24 = .ok (.iload_n 3, 1) := by decide +kernel
theorem dX9_solves_25 : decode cX9_solves 25 = .ok (.invokestatic 140, 3) := by decide +kernel
theorem dX9_solves_28 : decode cX9_solves 28 = .ok (.ifCond .eq 12, 3) := by decide +kernel
theorem dX9_solves_31 : decode cX9_solves 31 = .ok (.aload_n 0, 1) := by decide +kernel
theorem dX9_solves_32 : decode cX9_solves 32 = .ok (.getfield 51, 3) := by decide +kernel
theorem dX9_solves_35 : decode cX9_solves 35 = .ok (.iload_n 3, 1) := by decide +kernel
theorem dX9_solves_36 : decode cX9_solves 36 = .ok (.iaload, 1) := by decide +kernel
theorem dX9_solves_37 : decode cX9_solves 37 = .ok (.ifCond .lt 9, 3) := by decide +kernel
theorem dX9_solves_40 : decode cX9_solves 40 = .ok (.iinc 3 1, 3) := by decide +kernel
theorem dX9_solves_43 : decode cX9_solves 43 = .ok (.goto (-20), 3) := by decide +kernel
theorem dX9_solves_46 : decode cX9_solves 46 = .ok (.lconst 1, 1) := by decide +kernel
theorem dX9_solves_47 : decode cX9_solves 47 = .ok (.lstore 4, 2) := by decide +kernel
theorem dX9_solves_49 : decode cX9_solves 49 = .ok (.iconst 0, 1) := by decide +kernel
theorem dX9_solves_50 : decode cX9_solves 50 = .ok (.istore 6, 2) := by decide +kernel
theorem dX9_solves_52 : decode cX9_solves 52 = .ok (.iload 6, 2) := by decide +kernel
theorem dX9_solves_54 : decode cX9_solves 54 = .ok (.bipush 10, 2) := by decide +kernel
theorem dX9_solves_56 : decode cX9_solves 56 = .ok (.if_icmp .ge 145, 3) := by decide +kernel
theorem dX9_solves_59 : decode cX9_solves 59 = .ok (.aload_n 0, 1) := by decide +kernel
theorem dX9_solves_60 : decode cX9_solves 60 = .ok (.getfield 48, 3) := by decide +kernel
theorem dX9_solves_63 : decode cX9_solves 63 = .ok (.iload 6, 2) := by decide +kernel
theorem dX9_solves_65 : decode cX9_solves 65 = .ok (.lconst 0, 1) := by decide +kernel
theorem dX9_solves_66 : decode cX9_solves 66 = .ok (.lastore, 1) := by decide +kernel
theorem dX9_solves_67 : decode cX9_solves 67 = .ok (.aload_n 0, 1) := by decide +kernel
theorem dX9_solves_68 : decode cX9_solves 68 = .ok (.getfield 51, 3) := by decide +kernel
theorem dX9_solves_71 : decode cX9_solves 71 = .ok (.iload 6, 2) := by decide +kernel
theorem dX9_solves_73 : decode cX9_solves 73 = .ok (.iaload, 1) := by decide +kernel
theorem dX9_solves_74 : decode cX9_solves 74 = .ok (.ifCond .ge 6, 3) := by decide +kernel
theorem dX9_solves_77 : decode cX9_solves 77 = .ok (.goto 118, 3) := by decide +kernel
theorem dX9_solves_80 : decode cX9_solves 80 = .ok (.aload_n 0, 1) := by decide +kernel
theorem dX9_solves_81 : decode cX9_solves 81 = .ok (.getfield 44, 3) := by decide +kernel
theorem dX9_solves_84 : decode cX9_solves 84 = .ok (.bipush 10, 2) := by decide +kernel
theorem dX9_solves_86 : decode cX9_solves 86 = .ok (.aload_n 0, 1) := by decide +kernel
theorem dX9_solves_87 : decode cX9_solves 87 = .ok (.getfield 51, 3) := by decide +kernel
theorem dX9_solves_90 : decode cX9_solves 90 = .ok (.iload 6, 2) := by decide +kernel
theorem dX9_solves_92 : decode cX9_solves 92 = .ok (.iaload, 1) := by decide +kernel
theorem dX9_solves_93 : decode cX9_solves 93 = .ok (.imul, 1) := by decide +kernel
theorem dX9_solves_94 : decode cX9_solves 94 = .ok (.iload 6, 2) := by decide +kernel
theorem dX9_solves_96 : decode cX9_solves 96 = .ok (.iadd, 1) := by decide +kernel
theorem dX9_solves_97 : decode cX9_solves 97 = .ok (.laload, 1) := by decide +kernel
theorem dX9_solves_98 : decode cX9_solves 98 = .ok (.lstore 7, 2) := by decide +kernel
theorem dX9_solves_100 : decode cX9_solves 100 = .ok (.aload_n 0, 1) := by decide +kernel
theorem dX9_solves_101 : decode cX9_solves 101 = .ok (.getfield 44, 3) := by decide +kernel
theorem dX9_solves_104 : decode cX9_solves 104 = .ok (.bipush 10, 2) := by decide +kernel
theorem dX9_solves_106 : decode cX9_solves 106 = .ok (.aload_n 0, 1) := by decide +kernel
theorem dX9_solves_107 : decode cX9_solves 107 = .ok (.getfield 51, 3) := by decide +kernel
theorem dX9_solves_110 : decode cX9_solves 110 = .ok (.iload 6, 2) := by decide +kernel
theorem dX9_solves_112 : decode cX9_solves 112 = .ok (.iaload, 1) := by decide +kernel
theorem dX9_solves_113 : decode cX9_solves 113 = .ok (.imul, 1) := by decide +kernel
theorem dX9_solves_114 : decode cX9_solves 114 = .ok (.iload_n 3, 1) := by decide +kernel
theorem dX9_solves_115 : decode cX9_solves 115 = .ok (.iadd, 1) := by decide +kernel
theorem dX9_solves_116 : decode cX9_solves 116 = .ok (.laload, 1) := by decide +kernel
theorem dX9_solves_117 : decode cX9_solves 117 = .ok (.lstore 9, 2) := by decide +kernel
theorem dX9_solves_119 : decode cX9_solves 119 = .ok (.lload 9, 2) := by decide +kernel
theorem dX9_solves_121 : decode cX9_solves 121 = .ok (.lconst 0, 1) := by decide +kernel
theorem dX9_solves_122 : decode cX9_solves 122 = .ok (.lcmp, 1) := by decide +kernel
theorem dX9_solves_123 : decode cX9_solves 123 = .ok (.ifCond .eq 30, 3) := by decide +kernel
theorem dX9_solves_126 : decode cX9_solves 126 = .ok (.lload 7, 2) := by decide +kernel
theorem dX9_solves_128 : decode cX9_solves 128 = .ok (.lconst 0, 1) := by decide +kernel
theorem dX9_solves_129 : decode cX9_solves 129 = .ok (.lcmp, 1) := by decide +kernel
theorem dX9_solves_130 : decode cX9_solves 130 = .ok (.ifCond .le 7, 3) := by decide +kernel
theorem dX9_solves_133 : decode cX9_solves 133 = .ok (.iconst 1, 1) := by decide +kernel
theorem dX9_solves_134 : decode cX9_solves 134 = .ok (.goto 4, 3) := by decide +kernel
theorem dX9_solves_137 : decode cX9_solves 137 = .ok (.iconst 0, 1) := by decide +kernel
theorem dX9_solves_138 : decode cX9_solves 138 = .ok (.lload 9, 2) := by decide +kernel
theorem dX9_solves_140 : decode cX9_solves 140 = .ok (.lconst 0, 1) := by decide +kernel
theorem dX9_solves_141 : decode cX9_solves 141 = .ok (.lcmp, 1) := by decide +kernel
theorem dX9_solves_142 : decode cX9_solves 142 = .ok (.ifCond .le 7, 3) := by decide +kernel
theorem dX9_solves_145 : decode cX9_solves 145 = .ok (.iconst 1, 1) := by decide +kernel
theorem dX9_solves_146 : decode cX9_solves 146 = .ok (.goto 4, 3) := by decide +kernel
theorem dX9_solves_149 : decode cX9_solves 149 = .ok (.iconst 0, 1) := by decide +kernel
theorem dX9_solves_150 : decode cX9_solves 150 = .ok (.if_icmp .ne 5, 3) := by decide +kernel
theorem dX9_solves_153 : decode cX9_solves 153 = .ok (.iconst 0, 1) := by decide +kernel
theorem dX9_solves_154 : decode cX9_solves 154 = .ok (.ireturn, 1) := by decide +kernel
theorem dX9_solves_155 : decode cX9_solves 155 = .ok (.lload 7, 2) := by decide +kernel
theorem dX9_solves_157 : decode cX9_solves 157 = .ok (.lconst 0, 1) := by decide +kernel
theorem dX9_solves_158 : decode cX9_solves 158 = .ok (.lcmp, 1) := by decide +kernel
theorem dX9_solves_159 : decode cX9_solves 159 = .ok (.ifCond .ge 9, 3) := by decide +kernel
theorem dX9_solves_162 : decode cX9_solves 162 = .ok (.lload 7, 2) := by decide +kernel
theorem dX9_solves_164 : decode cX9_solves 164 = .ok (.lneg, 1) := by decide +kernel
theorem dX9_solves_165 : decode cX9_solves 165 = .ok (.goto 5, 3) := by decide +kernel
theorem dX9_solves_168 : decode cX9_solves 168 = .ok (.lload 7, 2) := by decide +kernel
theorem dX9_solves_170 : decode cX9_solves 170 = .ok (.lload 7, 2) := by decide +kernel
theorem dX9_solves_172 : decode cX9_solves 172 = .ok (.lload 9, 2) := by decide +kernel
theorem dX9_solves_174 : decode cX9_solves 174 = .ok (.invokestatic 306, 3) := by decide +kernel
theorem dX9_solves_177 : decode cX9_solves 177 = .ok (.ldiv, 1) := by decide +kernel
theorem dX9_solves_178 : decode cX9_solves 178 = .ok (.lstore 11, 2) := by decide +kernel
theorem dX9_solves_180 : decode cX9_solves 180 = .ok (.lload 4, 2) := by decide +kernel
theorem dX9_solves_182 : decode cX9_solves 182 = .ok (.lload 4, 2) := by decide +kernel
theorem dX9_solves_184 : decode cX9_solves 184 = .ok (.lload 11, 2) := by decide +kernel
theorem dX9_solves_186 : decode cX9_solves 186 = .ok (.invokestatic 306, 3) := by decide +kernel
theorem dX9_solves_189 : decode cX9_solves 189 = .ok (.ldiv, 1) := by decide +kernel
theorem dX9_solves_190 : decode cX9_solves 190 = .ok (.lload 11, 2) := by decide +kernel
theorem dX9_solves_192 : decode cX9_solves 192 = .ok (.lmul, 1) := by decide +kernel
theorem dX9_solves_193 : decode cX9_solves 193 = .ok (.lstore 4, 2) := by decide +kernel
theorem dX9_solves_195 : decode cX9_solves 195 = .ok (.iinc 6 1, 3) := by decide +kernel
theorem dX9_solves_198 : decode cX9_solves 198 = .ok (.goto (-146), 3) := by decide +kernel
theorem dX9_solves_201 : decode cX9_solves 201 = .ok (.aload_n 0, 1) := by decide +kernel
theorem dX9_solves_202 : decode cX9_solves 202 = .ok (.getfield 48, 3) := by decide +kernel
theorem dX9_solves_205 : decode cX9_solves 205 = .ok (.iload_n 3, 1) := by decide +kernel
theorem dX9_solves_206 : decode cX9_solves 206 = .ok (.lload 4, 2) := by decide +kernel
theorem dX9_solves_208 : decode cX9_solves 208 = .ok (.lastore, 1) := by decide +kernel
theorem dX9_solves_209 : decode cX9_solves 209 = .ok (.iconst 0, 1) := by decide +kernel
theorem dX9_solves_210 : decode cX9_solves 210 = .ok (.istore 6, 2) := by decide +kernel
theorem dX9_solves_212 : decode cX9_solves 212 = .ok (.iload 6, 2) := by decide +kernel
theorem dX9_solves_214 : decode cX9_solves 214 = .ok (.bipush 10, 2) := by decide +kernel
theorem dX9_solves_216 : decode cX9_solves 216 = .ok (.if_icmp .ge 114, 3) := by decide +kernel
theorem dX9_solves_219 : decode cX9_solves 219 = .ok (.aload_n 0, 1) := by decide +kernel
theorem dX9_solves_220 : decode cX9_solves 220 = .ok (.getfield 51, 3) := by decide +kernel
theorem dX9_solves_223 : decode cX9_solves 223 = .ok (.iload 6, 2) := by decide +kernel
theorem dX9_solves_225 : decode cX9_solves 225 = .ok (.iaload, 1) := by decide +kernel
theorem dX9_solves_226 : decode cX9_solves 226 = .ok (.ifCond .lt 98, 3) := by decide +kernel
theorem dX9_solves_229 : decode cX9_solves 229 = .ok (.aload_n 0, 1) := by decide +kernel
theorem dX9_solves_230 : decode cX9_solves 230 = .ok (.getfield 44, 3) := by decide +kernel
theorem dX9_solves_233 : decode cX9_solves 233 = .ok (.bipush 10, 2) := by decide +kernel
theorem dX9_solves_235 : decode cX9_solves 235 = .ok (.aload_n 0, 1) := by decide +kernel
theorem dX9_solves_236 : decode cX9_solves 236 = .ok (.getfield 51, 3) := by decide +kernel
theorem dX9_solves_239 : decode cX9_solves 239 = .ok (.iload 6, 2) := by decide +kernel
theorem dX9_solves_241 : decode cX9_solves 241 = .ok (.iaload, 1) := by decide +kernel
theorem dX9_solves_242 : decode cX9_solves 242 = .ok (.imul, 1) := by decide +kernel
theorem dX9_solves_243 : decode cX9_solves 243 = .ok (.iload 6, 2) := by decide +kernel
theorem dX9_solves_245 : decode cX9_solves 245 = .ok (.iadd, 1) := by decide +kernel
theorem dX9_solves_246 : decode cX9_solves 246 = .ok (.laload, 1) := by decide +kernel
theorem dX9_solves_247 : decode cX9_solves 247 = .ok (.lstore 7, 2) := by decide +kernel
theorem dX9_solves_249 : decode cX9_solves 249 = .ok (.aload_n 0, 1) := by decide +kernel
theorem dX9_solves_250 : decode cX9_solves 250 = .ok (.getfield 44, 3) := by decide +kernel
theorem dX9_solves_253 : decode cX9_solves 253 = .ok (.bipush 10, 2) := by decide +kernel
theorem dX9_solves_255 : decode cX9_solves 255 = .ok (.aload_n 0, 1) := by decide +kernel
theorem dX9_solves_256 : decode cX9_solves 256 = .ok (.getfield 51, 3) := by decide +kernel
theorem dX9_solves_259 : decode cX9_solves 259 = .ok (.iload 6, 2) := by decide +kernel
theorem dX9_solves_261 : decode cX9_solves 261 = .ok (.iaload, 1) := by decide +kernel
theorem dX9_solves_262 : decode cX9_solves 262 = .ok (.imul, 1) := by decide +kernel
theorem dX9_solves_263 : decode cX9_solves 263 = .ok (.iload_n 3, 1) := by decide +kernel
theorem dX9_solves_264 : decode cX9_solves 264 = .ok (.iadd, 1) := by decide +kernel
theorem dX9_solves_265 : decode cX9_solves 265 = .ok (.laload, 1) := by decide +kernel
theorem dX9_solves_266 : decode cX9_solves 266 = .ok (.lstore 9, 2) := by decide +kernel
theorem dX9_solves_268 : decode cX9_solves 268 = .ok (.lload 7, 2) := by decide +kernel
theorem dX9_solves_270 : decode cX9_solves 270 = .ok (.lload 9, 2) := by decide +kernel
theorem dX9_solves_272 : decode cX9_solves 272 = .ok (.invokestatic 306, 3) := by decide +kernel
theorem dX9_solves_275 : decode cX9_solves 275 = .ok (.lstore 11, 2) := by decide +kernel
theorem dX9_solves_277 : decode cX9_solves 277 = .ok (.aload_n 0, 1) := by decide +kernel
theorem dX9_solves_278 : decode cX9_solves 278 = .ok (.getfield 48, 3) := by decide +kernel
theorem dX9_solves_281 : decode cX9_solves 281 = .ok (.iload 6, 2) := by decide +kernel
theorem dX9_solves_283 : decode cX9_solves 283 = .ok (.lload 4, 2) := by decide +kernel
theorem dX9_solves_285 : decode cX9_solves 285 = .ok (.lload 7, 2) := by decide +kernel
theorem dX9_solves_287 : decode cX9_solves 287 = .ok (.lconst 0, 1) := by decide +kernel
theorem dX9_solves_288 : decode cX9_solves 288 = .ok (.lcmp, 1) := by decide +kernel
theorem dX9_solves_289 : decode cX9_solves 289 = .ok (.ifCond .ge 9, 3) := by decide +kernel
theorem dX9_solves_292 : decode cX9_solves 292 = .ok (.lload 7, 2) := by decide +kernel
theorem dX9_solves_294 : decode cX9_solves 294 = .ok (.lneg, 1) := by decide +kernel
theorem dX9_solves_295 : decode cX9_solves 295 = .ok (.goto 5, 3) := by decide +kernel
theorem dX9_solves_298 : decode cX9_solves 298 = .ok (.lload 7, 2) := by decide +kernel
theorem dX9_solves_300 : decode cX9_solves 300 = .ok (.lload 11, 2) := by decide +kernel
theorem dX9_solves_302 : decode cX9_solves 302 = .ok (.ldiv, 1) := by decide +kernel
theorem dX9_solves_303 : decode cX9_solves 303 = .ok (.ldiv, 1) := by decide +kernel
theorem dX9_solves_304 : decode cX9_solves 304 = .ok (.lload 9, 2) := by decide +kernel
theorem dX9_solves_306 : decode cX9_solves 306 = .ok (.lconst 0, 1) := by decide +kernel
theorem dX9_solves_307 : decode cX9_solves 307 = .ok (.lcmp, 1) := by decide +kernel
theorem dX9_solves_308 : decode cX9_solves 308 = .ok (.ifCond .ge 9, 3) := by decide +kernel
theorem dX9_solves_311 : decode cX9_solves 311 = .ok (.lload 9, 2) := by decide +kernel
theorem dX9_solves_313 : decode cX9_solves 313 = .ok (.lneg, 1) := by decide +kernel
theorem dX9_solves_314 : decode cX9_solves 314 = .ok (.goto 5, 3) := by decide +kernel
theorem dX9_solves_317 : decode cX9_solves 317 = .ok (.lload 9, 2) := by decide +kernel
theorem dX9_solves_319 : decode cX9_solves 319 = .ok (.lload 11, 2) := by decide +kernel
theorem dX9_solves_321 : decode cX9_solves 321 = .ok (.ldiv, 1) := by decide +kernel
theorem dX9_solves_322 : decode cX9_solves 322 = .ok (.lmul, 1) := by decide +kernel
theorem dX9_solves_323 : decode cX9_solves 323 = .ok (.lastore, 1) := by decide +kernel
theorem dX9_solves_324 : decode cX9_solves 324 = .ok (.iinc 6 1, 3) := by decide +kernel
theorem dX9_solves_327 : decode cX9_solves 327 = .ok (.goto (-115), 3) := by decide +kernel
theorem dX9_solves_330 : decode cX9_solves 330 = .ok (.iconst 1, 1) := by decide +kernel
theorem dX9_solves_331 : decode cX9_solves 331 = .ok (.ireturn, 1) := by decide +kernel
theorem dX9_laySums_0 : decode cX9_laySums 0 = .ok (.aload_n 0, 1) := by decide +kernel
theorem dX9_laySums_1 : decode cX9_laySums 1 = .ok (.getfield 260, 3) := by decide +kernel
theorem dX9_laySums_4 : decode cX9_laySums 4 = .ok (.ifCond .eq 4, 3) := by decide +kernel
theorem dX9_laySums_7 : decode cX9_laySums 7 = .ok (.return_, 1) := by decide +kernel
theorem dX9_laySums_8 : decode cX9_laySums 8 = .ok (.aload_n 0, 1) := by decide +kernel
theorem dX9_laySums_9 : decode cX9_laySums 9 = .ok (.iconst 1, 1) := by decide +kernel
theorem dX9_laySums_10 : decode cX9_laySums 10 = .ok (.putfield 260, 3) := by decide +kernel
theorem dX9_laySums_13 : decode cX9_laySums 13 = .ok (.iconst 0, 1) := by decide +kernel
theorem dX9_laySums_14 : decode cX9_laySums 14 = .ok (.istore_n 1, 1) := by decide +kernel
theorem dX9_laySums_15 : decode cX9_laySums 15 = .ok (.iload_n 1, 1) := by decide +kernel
theorem dX9_laySums_16 : decode cX9_laySums 16 = .ok (.iconst 2, 1) := by decide +kernel
theorem dX9_laySums_17 : decode cX9_laySums 17 = .ok (.if_icmp .ge 203, 3) := by decide +kernel
theorem dX9_laySums_20 : decode cX9_laySums 20 = .ok (.aload_n 0, 1) := by decide +kernel
theorem dX9_laySums_21 : decode cX9_laySums 21 = .ok (.getfield 63, 3) := by decide +kernel
theorem dX9_laySums_24 : decode cX9_laySums 24 = .ok (.iload_n 1, 1) := by decide +kernel
theorem dX9_laySums_25 : decode cX9_laySums 25 = .ok (.iconst 0, 1) := by decide +kernel
theorem dX9_laySums_26 : decode cX9_laySums 26 = .ok (.iastore, 1) := by decide +kernel
theorem dX9_laySums_27 : decode cX9_laySums 27 = .ok (.aload_n 0, 1) := by decide +kernel
theorem dX9_laySums_28 : decode cX9_laySums 28 = .ok (.getfield 66, 3) := by decide +kernel
theorem dX9_laySums_31 : decode cX9_laySums 31 = .ok (.iload_n 1, 1) := by decide +kernel
theorem dX9_laySums_32 : decode cX9_laySums 32 = .ok (.iconst 0, 1) := by decide +kernel
theorem dX9_laySums_33 : decode cX9_laySums 33 = .ok (.iastore, 1) := by decide +kernel
theorem dX9_laySums_34 : decode cX9_laySums 34 = .ok (.iload_n 1, 1) := by decide +kernel
theorem dX9_laySums_35 : decode cX9_laySums 35 = .ok (.ifCond .ne 12, 3) := by decide +kernel
theorem dX9_laySums_38 : decode cX9_laySums 38 = .ok (.aload_n 0, 1) := by decide +kernel
theorem dX9_laySums_39 : decode cX9_laySums 39 = .ok (.getfield 19, 3) := by decide +kernel
theorem dX9_laySums_42 : decode cX9_laySums 42 = .ok (.iconst 0, 1) := by decide +kernel
theorem dX9_laySums_43 : decode cX9_laySums 43 = .ok (.iaload, 1) := by decide +kernel
theorem dX9_laySums_44 : decode cX9_laySums 44 = .ok (.goto 9, 3) := by decide +kernel
theorem dX9_laySums_47 : decode cX9_laySums 47 = .ok (.aload_n 0, 1) := by decide +kernel
theorem dX9_laySums_48 : decode cX9_laySums 48 = .ok (.getfield 22, 3) := by decide +kernel
theorem dX9_laySums_51 : decode cX9_laySums 51 = .ok (.iconst 0, 1) := by decide +kernel
theorem dX9_laySums_52 : decode cX9_laySums 52 = .ok (.iaload, 1) := by decide +kernel
theorem dX9_laySums_53 : decode cX9_laySums 53 = .ok (.istore_n 2, 1) := by decide +kernel
theorem dX9_laySums_54 : decode cX9_laySums 54 = .ok (.iconst 1, 1) := by decide +kernel
theorem dX9_laySums_55 : decode cX9_laySums 55 = .ok (.istore_n 3, 1) := by decide +kernel
theorem dX9_laySums_56 : decode cX9_laySums 56 = .ok (.iload_n 3, 1) := by decide +kernel
theorem dX9_laySums_57 : decode cX9_laySums 57 = .ok (.sipush 1024, 3) := by decide +kernel
theorem dX9_laySums_60 : decode cX9_laySums 60 = .ok (.if_icmp .ge 154, 3) := by decide +kernel
theorem dX9_laySums_63 : decode cX9_laySums 63 = .ok (.iload_n 3, 1) := by decide +kernel
theorem dX9_laySums_64 : decode cX9_laySums 64 = .ok (.iload_n 2, 1) := by decide +kernel
theorem dX9_laySums_65 : decode cX9_laySums 65 = .ok (.iconst (-1), 1) := by decide +kernel
theorem dX9_laySums_66 : decode cX9_laySums 66 = .ok (.ixor, 1) := by decide +kernel
theorem dX9_laySums_67 : decode cX9_laySums 67 = .ok (.iand, 1) := by decide +kernel
theorem dX9_laySums_68 : decode cX9_laySums 68 = .ok (.ifCond .ne 81, 3) := by decide +kernel
theorem dX9_laySums_71 : decode cX9_laySums 71 = .ok (.aload_n 0, 1) := by decide +kernel
theorem dX9_laySums_72 : decode cX9_laySums 72 = .ok (.iload_n 1, 1) := by decide +kernel
theorem dX9_laySums_73 : decode cX9_laySums 73 = .ok (.iload_n 3, 1) := by decide +kernel
theorem dX9_laySums_74 : decode cX9_laySums 74 = .ok (.invokevirtual 323, 3) := by decide +kernel
theorem dX9_laySums_77 : decode cX9_laySums 77 = .ok (.ifCond .eq 72, 3) := by decide +kernel
theorem dX9_laySums_80 : decode cX9_laySums 80 = .ok (.sipush 260, 3) := by decide +kernel
theorem dX9_laySums_83 : decode cX9_laySums 83 = .ok (.iload_n 1, 1) := by decide +kernel
theorem dX9_laySums_84 : decode cX9_laySums 84 = .ok (.imul, 1) := by decide +kernel
theorem dX9_laySums_85 : decode cX9_laySums 85 = .ok (.aload_n 0, 1) := by decide +kernel
theorem dX9_laySums_86 : decode cX9_laySums 86 = .ok (.getfield 63, 3) := by decide +kernel
theorem dX9_laySums_89 : decode cX9_laySums 89 = .ok (.iload_n 1, 1) := by decide +kernel
theorem dX9_laySums_90 : decode cX9_laySums 90 = .ok (.iaload, 1) := by decide +kernel
theorem dX9_laySums_91 : decode cX9_laySums 91 = .ok (.iadd, 1) := by decide +kernel
theorem dX9_laySums_92 : decode cX9_laySums 92 = .ok (.istore 4, 2) := by decide +kernel
theorem dX9_laySums_94 : decode cX9_laySums 94 = .ok (.aload_n 0, 1) := by decide +kernel
theorem dX9_laySums_95 : decode cX9_laySums 95 = .ok (.getfield 54, 3) := by decide +kernel
theorem dX9_laySums_98 : decode cX9_laySums 98 = .ok (.iload 4, 2) := by decide +kernel
theorem dX9_laySums_100 : decode cX9_laySums 100 = .ok (.iload_n 3, 1) := by decide +kernel
theorem dX9_laySums_101 : decode cX9_laySums 101 = .ok (.iastore, 1) := by decide +kernel
theorem dX9_laySums_102 : decode cX9_laySums 102 = .ok (.iconst 0, 1) := by decide +kernel
theorem dX9_laySums_103 : decode cX9_laySums 103 = .ok (.istore 5, 2) := by decide +kernel
theorem dX9_laySums_105 : decode cX9_laySums 105 = .ok (.iload 5, 2) := by decide +kernel
theorem dX9_laySums_107 : decode cX9_laySums 107 = .ok (.bipush 10, 2) := by decide +kernel
theorem dX9_laySums_109 : decode cX9_laySums 109 = .ok (.if_icmp .ge 30, 3) := by decide +kernel
theorem dX9_laySums_112 : decode cX9_laySums 112 = .ok (.aload_n 0, 1) := by decide +kernel
theorem dX9_laySums_113 : decode cX9_laySums 113 = .ok (.getfield 57, 3) := by decide +kernel
theorem dX9_laySums_116 : decode cX9_laySums 116 = .ok (.bipush 10, 2) := by decide +kernel
theorem dX9_laySums_118 : decode cX9_laySums 118 = .ok (.iload 4, 2) := by decide +kernel
theorem dX9_laySums_120 : decode cX9_laySums 120 = .ok (.imul, 1) := by decide +kernel
theorem dX9_laySums_121 : decode cX9_laySums 121 = .ok (.iload 5, 2) := by decide +kernel
theorem dX9_laySums_123 : decode cX9_laySums 123 = .ok (.iadd, 1) := by decide +kernel
theorem dX9_laySums_124 : decode cX9_laySums 124 = .ok (.aload_n 0, 1) := by decide +kernel
theorem dX9_laySums_125 : decode cX9_laySums 125 = .ok (.getfield 48, 3) := by decide +kernel
theorem dX9_laySums_128 : decode cX9_laySums 128 = .ok (.iload 5, 2) := by decide +kernel
theorem dX9_laySums_130 : decode cX9_laySums 130 = .ok (.laload, 1) := by decide +kernel
theorem dX9_laySums_131 : decode cX9_laySums 131 = .ok (.l2i, 1) := by decide +kernel
theorem dX9_laySums_132 : decode cX9_laySums 132 = .ok (.iastore, 1) := by decide +kernel
theorem dX9_laySums_133 : decode cX9_laySums 133 = .ok (.iinc 5 1, 3) := by decide +kernel
theorem dX9_laySums_136 : decode cX9_laySums 136 = .ok (.goto (-31), 3) := by decide +kernel
theorem dX9_laySums_139 : decode cX9_laySums 139 = .ok (.aload_n 0, 1) := by decide +kernel
theorem dX9_laySums_140 : decode cX9_laySums 140 = .ok (.getfield 63, 3) := by decide +kernel
theorem dX9_laySums_143 : decode cX9_laySums 143 = .ok (.iload_n 1, 1) := by decide +kernel
theorem dX9_laySums_144 : decode cX9_laySums 144 = .ok (.dup2, 1) := by decide +kernel
theorem dX9_laySums_145 : decode cX9_laySums 145 = .ok (.iaload, 1) := by decide +kernel
theorem dX9_laySums_146 : decode cX9_laySums 146 = .ok (.iconst 1, 1) := by decide +kernel
theorem dX9_laySums_147 : decode cX9_laySums 147 = .ok (.iadd, 1) := by decide +kernel
theorem dX9_laySums_148 : decode cX9_laySums 148 = .ok (.iastore, 1) := by decide +kernel
theorem dX9_laySums_149 : decode cX9_laySums 149 = .ok (.iload_n 3, 1) := by decide +kernel
theorem dX9_laySums_150 : decode cX9_laySums 150 = .ok (.aload_n 0, 1) := by decide +kernel
theorem dX9_laySums_151 : decode cX9_laySums 151 = .ok (.getfield 19, 3) := by decide +kernel
theorem dX9_laySums_154 : decode cX9_laySums 154 = .ok (.iconst 0, 1) := by decide +kernel
theorem dX9_laySums_155 : decode cX9_laySums 155 = .ok (.iaload, 1) := by decide +kernel
theorem dX9_laySums_156 : decode cX9_laySums 156 = .ok (.iconst (-1), 1) := by decide +kernel
theorem dX9_laySums_157 : decode cX9_laySums 157 = .ok (.ixor, 1) := by decide +kernel
theorem dX9_laySums_158 : decode cX9_laySums 158 = .ok (.iand, 1) := by decide +kernel
theorem dX9_laySums_159 : decode cX9_laySums 159 = .ok (.ifCond .ne 49, 3) := by decide +kernel
theorem dX9_laySums_162 : decode cX9_laySums 162 = .ok (.aload_n 0, 1) := by decide +kernel
theorem dX9_laySums_163 : decode cX9_laySums 163 = .ok (.iload_n 1, 1) := by decide +kernel
theorem dX9_laySums_164 : decode cX9_laySums 164 = .ok (.iload_n 3, 1) := by decide +kernel
theorem dX9_laySums_165 : decode cX9_laySums 165 = .ok (.invokevirtual 326, 3) := by decide +kernel
theorem dX9_laySums_168 : decode cX9_laySums 168 = .ok (.ifCond .eq 40, 3) := by decide +kernel
theorem dX9_laySums_171 : decode cX9_laySums 171 = .ok (.aload_n 0, 1) := by decide +kernel
theorem dX9_laySums_172 : decode cX9_laySums 172 = .ok (.iload_n 1, 1) := by decide +kernel
theorem dX9_laySums_173 : decode cX9_laySums 173 = .ok (.iload_n 3, 1) := by decide +kernel
theorem dX9_laySums_174 : decode cX9_laySums 174 = .ok (.invokevirtual 329, 3) := by decide +kernel
theorem dX9_laySums_177 : decode cX9_laySums 177 = .ok (.ifCond .ne 31, 3) := by decide +kernel
theorem dX9_laySums_180 : decode cX9_laySums 180 = .ok (.aload_n 0, 1) := by decide +kernel
theorem dX9_laySums_181 : decode cX9_laySums 181 = .ok (.getfield 60, 3) := by decide +kernel
theorem dX9_laySums_184 : decode cX9_laySums 184 = .ok (.sipush 260, 3) := by decide +kernel
theorem dX9_laySums_187 : decode cX9_laySums 187 = .ok (.iload_n 1, 1) := by decide +kernel
theorem dX9_laySums_188 : decode cX9_laySums 188 = .ok (.imul, 1) := by decide +kernel
theorem dX9_laySums_189 : decode cX9_laySums 189 = .ok (.aload_n 0, 1) := by decide +kernel
theorem dX9_laySums_190 : decode cX9_laySums 190 = .ok (.getfield 66, 3) := by decide +kernel
theorem dX9_laySums_193 : decode cX9_laySums 193 = .ok (.iload_n 1, 1) := by decide +kernel
theorem dX9_laySums_194 : decode cX9_laySums 194 = .ok (.iaload, 1) := by decide +kernel
theorem dX9_laySums_195 : decode cX9_laySums 195 = .ok (.iadd, 1) := by decide +kernel
theorem dX9_laySums_196 : decode cX9_laySums 196 = .ok (.iload_n 3, 1) := by decide +kernel
theorem dX9_laySums_197 : decode cX9_laySums 197 = .ok (.iastore, 1) := by decide +kernel
theorem dX9_laySums_198 : decode cX9_laySums 198 = .ok (.aload_n 0, 1) := by decide +kernel
theorem dX9_laySums_199 : decode cX9_laySums 199 = .ok (.getfield 66, 3) := by decide +kernel
theorem dX9_laySums_202 : decode cX9_laySums 202 = .ok (.iload_n 1, 1) := by decide +kernel
theorem dX9_laySums_203 : decode cX9_laySums 203 = .ok (.dup2, 1) := by decide +kernel
theorem dX9_laySums_204 : decode cX9_laySums 204 = .ok (.iaload, 1) := by decide +kernel
theorem dX9_laySums_205 : decode cX9_laySums 205 = .ok (.iconst 1, 1) := by decide +kernel
theorem dX9_laySums_206 : decode cX9_laySums 206 = .ok (.iadd, 1) := by decide +kernel
theorem dX9_laySums_207 : decode cX9_laySums 207 = .ok (.iastore, 1) := by decide +kernel
theorem dX9_laySums_208 : decode cX9_laySums 208 = .ok (.iinc 3 1, 3) := by decide +kernel
theorem dX9_laySums_211 : decode cX9_laySums 211 = .ok (.goto (-155), 3) := by decide +kernel
theorem dX9_laySums_214 : decode cX9_laySums 214 = .ok (.iinc 1 1, 3) := by decide +kernel
theorem dX9_laySums_217 : decode cX9_laySums 217 = .ok (.goto (-202), 3) := by decide +kernel
theorem dX9_laySums_220 : decode cX9_laySums 220 = .ok (.return_, 1) := by decide +kernel
theorem dX9_hasLess_0 : decode cX9_hasLess 0 = .ok (.iconst 0, 1) := by decide +kernel
theorem dX9_hasLess_1 : decode cX9_hasLess 1 = .ok (.istore_n 3, 1) := by decide +kernel
theorem dX9_hasLess_2 : decode cX9_hasLess 2 = .ok (.iload_n 3, 1) := by decide +kernel
theorem dX9_hasLess_3 : decode cX9_hasLess 3 = .ok (.aload_n 0, 1) := by decide +kernel
theorem dX9_hasLess_4 : decode cX9_hasLess 4 = .ok (.getfield 66, 3) := by decide +kernel
theorem dX9_hasLess_7 : decode cX9_hasLess 7 = .ok (.iload_n 1, 1) := by decide +kernel
theorem dX9_hasLess_8 : decode cX9_hasLess 8 = .ok (.iaload, 1) := by decide +kernel
theorem dX9_hasLess_9 : decode cX9_hasLess 9 = .ok (.if_icmp .ge 30, 3) := by decide +kernel
theorem dX9_hasLess_12 : decode cX9_hasLess 12 = .ok (.aload_n 0, 1) := by decide +kernel
theorem dX9_hasLess_13 : decode cX9_hasLess 13 = .ok (.getfield 60, 3) := by decide +kernel
theorem dX9_hasLess_16 : decode cX9_hasLess 16 = .ok (.sipush 260, 3) := by decide +kernel
theorem dX9_hasLess_19 : decode cX9_hasLess 19 = .ok (.iload_n 1, 1) := by decide +kernel
theorem dX9_hasLess_20 : decode cX9_hasLess 20 = .ok (.imul, 1) := by decide +kernel
theorem dX9_hasLess_21 : decode cX9_hasLess 21 = .ok (.iload_n 3, 1) := by decide +kernel
theorem dX9_hasLess_22 : decode cX9_hasLess 22 = .ok (.iadd, 1) := by decide +kernel
theorem dX9_hasLess_23 : decode cX9_hasLess 23 = .ok (.iaload, 1) := by decide +kernel
theorem dX9_hasLess_24 : decode cX9_hasLess 24 = .ok (.iload_n 2, 1) := by decide +kernel
theorem dX9_hasLess_25 : decode cX9_hasLess 25 = .ok (.iconst (-1), 1) := by decide +kernel
theorem dX9_hasLess_26 : decode cX9_hasLess 26 = .ok (.ixor, 1) := by decide +kernel
theorem dX9_hasLess_27 : decode cX9_hasLess 27 = .ok (.iand, 1) := by decide +kernel
theorem dX9_hasLess_28 : decode cX9_hasLess 28 = .ok (.ifCond .ne 5, 3) := by decide +kernel
theorem dX9_hasLess_31 : decode cX9_hasLess 31 = .ok (.iconst 1, 1) := by decide +kernel
theorem dX9_hasLess_32 : decode cX9_hasLess 32 = .ok (.ireturn, 1) := by decide +kernel
theorem dX9_hasLess_33 : decode cX9_hasLess 33 = .ok (.iinc 3 1, 3) := by decide +kernel
theorem dX9_hasLess_36 : decode cX9_hasLess 36 = .ok (.goto (-34), 3) := by decide +kernel
theorem dX9_hasLess_39 : decode cX9_hasLess 39 = .ok (.iconst 0, 1) := by decide +kernel
theorem dX9_hasLess_40 : decode cX9_hasLess 40 = .ok (.ireturn, 1) := by decide +kernel
theorem dX9_placesOf_0 : decode cX9_placesOf 0 = .ok (.iconst 0, 1) := by decide +kernel
theorem dX9_placesOf_1 : decode cX9_placesOf 1 = .ok (.istore_n 3, 1) := by decide +kernel
theorem dX9_placesOf_2 : decode cX9_placesOf 2 = .ok (.iconst 0, 1) := by decide +kernel
theorem dX9_placesOf_3 : decode cX9_placesOf 3 = .ok (.istore 4, 2) := by decide +kernel
theorem dX9_placesOf_5 : decode cX9_placesOf 5 = .ok (.iload 4, 2) := by decide +kernel
theorem dX9_placesOf_7 : decode cX9_placesOf 7 = .ok (.bipush 10, 2) := by decide +kernel
theorem dX9_placesOf_9 : decode cX9_placesOf 9 = .ok (.if_icmp .ge 56, 3) := by decide +kernel
theorem dX9_placesOf_12 : decode cX9_placesOf 12 = .ok (.iload_n 3, 1) := by decide +kernel
theorem dX9_placesOf_13 : decode cX9_placesOf 13 = .ok (.iload_n 2, 1) := by decide +kernel
theorem dX9_placesOf_14 : decode cX9_placesOf 14 = .ok (.ifCond .eq 19, 3) := by decide +kernel
theorem dX9_placesOf_17 : decode cX9_placesOf 17 = .ok (.aload_n 0, 1) := by decide +kernel
theorem dX9_placesOf_18 : decode cX9_placesOf 18 = .ok (.getfield 7, 3) := by decide +kernel
theorem dX9_placesOf_21 : decode cX9_placesOf 21 = .ok (.aload_n 0, 1) := by decide +kernel
theorem dX9_placesOf_22 : decode cX9_placesOf 22 = .ok (.iconst 0, 1) := by decide +kernel
theorem dX9_placesOf_23 : decode cX9_placesOf 23 = .ok (.iload_n 1, 1) := by decide +kernel
theorem dX9_placesOf_24 : decode cX9_placesOf 24 = .ok (.iload 4, 2) := by decide +kernel
theorem dX9_placesOf_26 : decode cX9_placesOf 26 = .ok (.invokevirtual 144, 3) := by decide +kernel
theorem dX9_placesOf_29 : decode cX9_placesOf 29 = .ok (.iaload, 1) := by decide +kernel
theorem dX9_placesOf_30 : decode cX9_placesOf 30 = .ok (.goto 16, 3) := by decide +kernel
theorem dX9_placesOf_33 : decode cX9_placesOf 33 = .ok (.aload_n 0, 1) := by decide +kernel
theorem dX9_placesOf_34 : decode cX9_placesOf 34 = .ok (.getfield 13, 3) := by decide +kernel
theorem dX9_placesOf_37 : decode cX9_placesOf 37 = .ok (.aload_n 0, 1) := by decide +kernel
theorem dX9_placesOf_38 : decode cX9_placesOf 38 = .ok (.iconst 0, 1) := by decide +kernel
theorem dX9_placesOf_39 : decode cX9_placesOf 39 = .ok (.iload_n 1, 1) := by decide +kernel
theorem dX9_placesOf_40 : decode cX9_placesOf 40 = .ok (.iload 4, 2) := by decide +kernel
theorem dX9_placesOf_42 : decode cX9_placesOf 42 = .ok (.invokevirtual 144, 3) := by decide +kernel
theorem dX9_placesOf_45 : decode cX9_placesOf 45 = .ok (.iaload, 1) := by decide +kernel
theorem dX9_placesOf_46 : decode cX9_placesOf 46 = .ok (.ifCond .le 10, 3) := by decide +kernel
theorem dX9_placesOf_49 : decode cX9_placesOf 49 = .ok (.iconst 1, 1) := by decide +kernel
theorem dX9_placesOf_50 : decode cX9_placesOf 50 = .ok (.iload 4, 2) := by decide +kernel
theorem dX9_placesOf_52 : decode cX9_placesOf 52 = .ok (.ishl, 1) := by decide +kernel
theorem dX9_placesOf_53 : decode cX9_placesOf 53 = .ok (.goto 4, 3) := by decide +kernel
theorem dX9_placesOf_56 : decode cX9_placesOf 56 = .ok (.iconst 0, 1) := by decide +kernel
theorem dX9_placesOf_57 : decode cX9_placesOf 57 = .ok (.ior, 1) := by decide +kernel
theorem dX9_placesOf_58 : decode cX9_placesOf 58 = .ok (.istore_n 3, 1) := by decide +kernel
theorem dX9_placesOf_59 : decode cX9_placesOf 59 = .ok (.iinc 4 1, 3) := by decide +kernel
theorem dX9_placesOf_62 : decode cX9_placesOf 62 = .ok (.goto (-57), 3) := by decide +kernel
theorem dX9_placesOf_65 : decode cX9_placesOf 65 = .ok (.iload_n 3, 1) := by decide +kernel
theorem dX9_placesOf_66 : decode cX9_placesOf 66 = .ok (.ireturn, 1) := by decide +kernel
theorem dX9_isClosed_0 : decode cX9_isClosed 0 = .ok (.iconst 0, 1) := by decide +kernel
theorem dX9_isClosed_1 : decode cX9_isClosed 1 = .ok (.istore_n 3, 1) := by decide +kernel
theorem dX9_isClosed_2 : decode cX9_isClosed 2 = .ok (.iload_n 3, 1) := by decide +kernel
theorem dX9_isClosed_3 : decode cX9_isClosed 3 = .ok (.bipush 8, 2) := by decide +kernel
theorem dX9_isClosed_5 : decode cX9_isClosed 5 = .ok (.if_icmp .ge 50, 3) := by decide +kernel
theorem dX9_isClosed_8 : decode cX9_isClosed 8 = .ok (.aload_n 0, 1) := by decide +kernel
theorem dX9_isClosed_9 : decode cX9_isClosed 9 = .ok (.iload_n 3, 1) := by decide +kernel
theorem dX9_isClosed_10 : decode cX9_isClosed 10 = .ok (.iload_n 1, 1) := by decide +kernel
theorem dX9_isClosed_11 : decode cX9_isClosed 11 = .ok (.iconst 1, 1) := by decide +kernel
theorem dX9_isClosed_12 : decode cX9_isClosed 12 = .ok (.if_icmp .ne 7, 3) := by decide +kernel
theorem dX9_isClosed_15 : decode cX9_isClosed 15 = .ok (.iconst 1, 1) := by decide +kernel
theorem dX9_isClosed_16 : decode cX9_isClosed 16 = .ok (.goto 4, 3) := by decide +kernel
theorem dX9_isClosed_19 : decode cX9_isClosed 19 = .ok (.iconst 0, 1) := by decide +kernel
theorem dX9_isClosed_20 : decode cX9_isClosed 20 = .ok (.invokevirtual 332, 3) := by decide +kernel
theorem dX9_isClosed_23 : decode cX9_isClosed 23 = .ok (.iload_n 2, 1) := by decide +kernel
theorem dX9_isClosed_24 : decode cX9_isClosed 24 = .ok (.iand, 1) := by decide +kernel
theorem dX9_isClosed_25 : decode cX9_isClosed 25 = .ok (.ifCond .eq 24, 3) := by decide +kernel
theorem dX9_isClosed_28 : decode cX9_isClosed 28 = .ok (.aload_n 0, 1) := by decide +kernel
theorem dX9_isClosed_29 : decode cX9_isClosed 29 = .ok (.iload_n 3, 1) := by decide +kernel
theorem dX9_isClosed_30 : decode cX9_isClosed 30 = .ok (.iload_n 1, 1) := by decide +kernel
theorem dX9_isClosed_31 : decode cX9_isClosed 31 = .ok (.ifCond .ne 7, 3) := by decide +kernel
theorem dX9_isClosed_34 : decode cX9_isClosed 34 = .ok (.iconst 1, 1) := by decide +kernel
theorem dX9_isClosed_35 : decode cX9_isClosed 35 = .ok (.goto 4, 3) := by decide +kernel
theorem dX9_isClosed_38 : decode cX9_isClosed 38 = .ok (.iconst 0, 1) := by decide +kernel
theorem dX9_isClosed_39 : decode cX9_isClosed 39 = .ok (.invokevirtual 332, 3) := by decide +kernel
theorem dX9_isClosed_42 : decode cX9_isClosed 42 = .ok (.iload_n 2, 1) := by decide +kernel
theorem dX9_isClosed_43 : decode cX9_isClosed 43 = .ok (.iand, 1) := by decide +kernel
theorem dX9_isClosed_44 : decode cX9_isClosed 44 = .ok (.ifCond .ne 5, 3) := by decide +kernel
theorem dX9_isClosed_47 : decode cX9_isClosed 47 = .ok (.iconst 0, 1) := by decide +kernel
theorem dX9_isClosed_48 : decode cX9_isClosed 48 = .ok (.ireturn, 1) := by decide +kernel
theorem dX9_isClosed_49 : decode cX9_isClosed 49 = .ok (.iinc 3 1, 3) := by decide +kernel
theorem dX9_isClosed_52 : decode cX9_isClosed 52 = .ok (.goto (-50), 3) := by decide +kernel
theorem dX9_isClosed_55 : decode cX9_isClosed 55 = .ok (.iconst 1, 1) := by decide +kernel
theorem dX9_isClosed_56 : decode cX9_isClosed 56 = .ok (.ireturn, 1) := by decide +kernel
theorem dX9_within_0 : decode cX9_within 0 = .ok (.iload_n 2, 1) := by decide +kernel
theorem dX9_within_1 : decode cX9_within 1 = .ok (.aload_n 0, 1) := by decide +kernel
theorem dX9_within_2 : decode cX9_within 2 = .ok (.getfield 19, 3) := by decide +kernel
theorem dX9_within_5 : decode cX9_within 5 = .ok (.iconst 0, 1) := by decide +kernel
theorem dX9_within_6 : decode cX9_within 6 = .ok (.iaload, 1) := by decide +kernel
theorem dX9_within_7 : decode cX9_within 7 = .ok (.iand, 1) := by decide +kernel
theorem dX9_within_8 : decode cX9_within 8 = .ok (.istore_n 3, 1) := by decide +kernel
theorem dX9_within_9 : decode cX9_within 9 = .ok (.iconst 1, 1) := by decide +kernel
theorem dX9_within_10 : decode cX9_within 10 = .ok (.istore 4, 2) := by decide +kernel
theorem dX9_within_12 : decode cX9_within 12 = .ok (.iload 4, 2) := by decide +kernel
theorem dX9_within_14 : decode cX9_within 14 = .ok (.ifCond .eq 80, 3) := by decide +kernel
theorem dX9_within_17 : decode cX9_within 17 = .ok (.iconst 0, 1) := by decide +kernel
theorem dX9_within_18 : decode cX9_within 18 = .ok (.istore 4, 2) := by decide +kernel
theorem dX9_within_20 : decode cX9_within 20 = .ok (.iconst 0, 1) := by decide +kernel
theorem dX9_within_21 : decode cX9_within 21 = .ok (.istore 5, 2) := by decide +kernel
theorem dX9_within_23 : decode cX9_within 23 = .ok (.iload 5, 2) := by decide +kernel
theorem dX9_within_25 : decode cX9_within 25 = .ok (.bipush 8, 2) := by decide +kernel
theorem dX9_within_27 : decode cX9_within 27 = .ok (.if_icmp .ge 64, 3) := by decide +kernel
theorem dX9_within_30 : decode cX9_within 30 = .ok (.aload_n 0, 1) := by decide +kernel
theorem dX9_within_31 : decode cX9_within 31 = .ok (.iload 5, 2) := by decide +kernel
theorem dX9_within_33 : decode cX9_within 33 = .ok (.iload_n 1, 1) := by decide +kernel
theorem dX9_within_34 : decode cX9_within 34 = .ok (.iconst 1, 1) := by decide +kernel
theorem dX9_within_35 : decode cX9_within 35 = .ok (.if_icmp .ne 7, 3) := by decide +kernel
theorem dX9_within_38 : decode cX9_within 38 = .ok (.iconst 1, 1) := by decide +kernel
theorem dX9_within_39 : decode cX9_within 39 = .ok (.goto 4, 3) := by decide +kernel
theorem dX9_within_42 : decode cX9_within 42 = .ok (.iconst 0, 1) := by decide +kernel
theorem dX9_within_43 : decode cX9_within 43 = .ok (.invokevirtual 332, 3) := by decide +kernel
theorem dX9_within_46 : decode cX9_within 46 = .ok (.iload_n 3, 1) := by decide +kernel
theorem dX9_within_47 : decode cX9_within 47 = .ok (.iand, 1) := by decide +kernel
theorem dX9_within_48 : decode cX9_within 48 = .ok (.istore 6, 2) := by decide +kernel
theorem dX9_within_50 : decode cX9_within 50 = .ok (.iload 6, 2) := by decide +kernel
theorem dX9_within_52 : decode cX9_within 52 = .ok (.ifCond .eq 33, 3) := by decide +kernel
theorem dX9_within_55 : decode cX9_within 55 = .ok (.aload_n 0, 1) := by decide +kernel
theorem dX9_within_56 : decode cX9_within 56 = .ok (.iload 5, 2) := by decide +kernel
theorem dX9_within_58 : decode cX9_within 58 = .ok (.iload_n 1, 1) := by decide +kernel
theorem dX9_within_59 : decode cX9_within 59 = .ok (.ifCond .ne 7, 3) := by decide +kernel
theorem dX9_within_62 : decode cX9_within 62 = .ok (.iconst 1, 1) := by decide +kernel
theorem dX9_within_63 : decode cX9_within 63 = .ok (.goto 4, 3) := by decide +kernel
theorem dX9_within_66 : decode cX9_within 66 = .ok (.iconst 0, 1) := by decide +kernel
theorem dX9_within_67 : decode cX9_within 67 = .ok (.invokevirtual 332, 3) := by decide +kernel
theorem dX9_within_70 : decode cX9_within 70 = .ok (.iload_n 3, 1) := by decide +kernel
theorem dX9_within_71 : decode cX9_within 71 = .ok (.iand, 1) := by decide +kernel
theorem dX9_within_72 : decode cX9_within 72 = .ok (.ifCond .ne 13, 3) := by decide +kernel
theorem dX9_within_75 : decode cX9_within 75 = .ok (.iload_n 3, 1) := by decide +kernel
theorem dX9_within_76 : decode cX9_within 76 = .ok (.iload 6, 2) := by decide +kernel
theorem dX9_within_78 : decode cX9_within 78 = .ok (.iconst (-1), 1) := by decide +kernel
theorem dX9_within_79 : decode cX9_within 79 = .ok (.ixor, 1) := by decide +kernel
theorem dX9_within_80 : decode cX9_within 80 = .ok (.iand, 1) := by decide +kernel
theorem dX9_within_81 : decode cX9_within 81 = .ok (.istore_n 3, 1) := by decide +kernel
theorem dX9_within_82 : decode cX9_within 82 = .ok (.iconst 1, 1) := by decide +kernel
theorem dX9_within_83 : decode cX9_within 83 = .ok (.istore 4, 2) := by decide +kernel
theorem dX9_within_85 : decode cX9_within 85 = .ok (.iinc 5 1, 3) := by decide +kernel
theorem dX9_within_88 : decode cX9_within 88 = .ok (.goto (-65), 3) := by decide +kernel
theorem dX9_within_91 : decode cX9_within 91 = .ok (.goto (-79), 3) := by decide +kernel
theorem dX9_within_94 : decode cX9_within 94 = .ok (.iload_n 3, 1) := by decide +kernel
theorem dX9_within_95 : decode cX9_within 95 = .ok (.ireturn, 1) := by decide +kernel
theorem dX9_sums_0 : decode cX9_sums 0 = .ok (.aload_n 0, 1) := by decide +kernel
theorem dX9_sums_1 : decode cX9_sums 1 = .ok (.iconst 0, 1) := by decide +kernel
theorem dX9_sums_2 : decode cX9_sums 2 = .ok (.putfield 133, 3) := by decide +kernel
theorem dX9_sums_5 : decode cX9_sums 5 = .ok (.iload_n 1, 1) := by decide +kernel
theorem dX9_sums_6 : decode cX9_sums 6 = .ok (.iconst 0, 1) := by decide +kernel
theorem dX9_sums_7 : decode cX9_sums 7 = .ok (.iconst 1, 1) := by decide +kernel
theorem dX9_sums_8 : decode cX9_sums 8 = .ok (.invokestatic 136, 3) := by decide +kernel
theorem dX9_sums_11 : decode cX9_sums 11 = .ok (.ifCond .ne 5, 3) := by decide +kernel
theorem dX9_sums_14 : decode cX9_sums 14 = .ok (.iconst (-1), 1) := by decide +kernel
theorem dX9_sums_15 : decode cX9_sums 15 = .ok (.ireturn, 1) := by decide +kernel
theorem dX9_sums_16 : decode cX9_sums 16 = .ok (.aload_n 0, 1) := by decide +kernel
theorem dX9_sums_17 : decode cX9_sums 17 = .ok (.invokevirtual 336, 3) := by decide +kernel
theorem dX9_sums_20 : decode cX9_sums 20 = .ok (.aload_n 0, 1) := by decide +kernel
theorem dX9_sums_21 : decode cX9_sums 21 = .ok (.getfield 63, 3) := by decide +kernel
theorem dX9_sums_24 : decode cX9_sums 24 = .ok (.iload_n 1, 1) := by decide +kernel
theorem dX9_sums_25 : decode cX9_sums 25 = .ok (.iaload, 1) := by decide +kernel
theorem dX9_sums_26 : decode cX9_sums 26 = .ok (.ireturn, 1) := by decide +kernel
theorem dX9_isSum_0 : decode cX9_isSum 0 = .ok (.aload_n 0, 1) := by decide +kernel
theorem dX9_isSum_1 : decode cX9_isSum 1 = .ok (.invokevirtual 336, 3) := by decide +kernel
theorem dX9_isSum_4 : decode cX9_isSum 4 = .ok (.iload_n 1, 1) := by decide +kernel
theorem dX9_isSum_5 : decode cX9_isSum 5 = .ok (.iconst 0, 1) := by decide +kernel
theorem dX9_isSum_6 : decode cX9_isSum 6 = .ok (.iconst 1, 1) := by decide +kernel
theorem dX9_isSum_7 : decode cX9_isSum 7 = .ok (.invokestatic 136, 3) := by decide +kernel
theorem dX9_isSum_10 : decode cX9_isSum 10 = .ok (.ifCond .eq 23, 3) := by decide +kernel
theorem dX9_isSum_13 : decode cX9_isSum 13 = .ok (.iload_n 2, 1) := by decide +kernel
theorem dX9_isSum_14 : decode cX9_isSum 14 = .ok (.iconst 0, 1) := by decide +kernel
theorem dX9_isSum_15 : decode cX9_isSum 15 = .ok (.aload_n 0, 1) := by decide +kernel
theorem dX9_isSum_16 : decode cX9_isSum 16 = .ok (.getfield 63, 3) := by decide +kernel
theorem dX9_isSum_19 : decode cX9_isSum 19 = .ok (.iload_n 1, 1) := by decide +kernel
theorem dX9_isSum_20 : decode cX9_isSum 20 = .ok (.iaload, 1) := by decide +kernel
theorem dX9_isSum_21 : decode cX9_isSum 21 = .ok (.iconst 1, 1) := by decide +kernel
theorem dX9_isSum_22 : decode cX9_isSum 22 = .ok (.isub, 1) := by decide +kernel
theorem dX9_isSum_23 : decode cX9_isSum 23 = .ok (.invokestatic 136, 3) := by decide +kernel
theorem dX9_isSum_26 : decode cX9_isSum 26 = .ok (.ifCond .eq 7, 3) := by decide +kernel
theorem dX9_isSum_29 : decode cX9_isSum 29 = .ok (.iconst 1, 1) := by decide +kernel
theorem dX9_isSum_30 : decode cX9_isSum 30 = .ok (.goto 4, 3) := by decide +kernel
theorem dX9_isSum_33 : decode cX9_isSum 33 = .ok (.iconst 0, 1) := by decide +kernel
theorem dX9_isSum_34 : decode cX9_isSum 34 = .ok (.ireturn, 1) := by decide +kernel
theorem dX9_sum_0 : decode cX9_sum 0 = .ok (.aload_n 0, 1) := by decide +kernel
theorem dX9_sum_1 : decode cX9_sum 1 = .ok (.iconst 0, 1) := by decide +kernel
theorem dX9_sum_2 : decode cX9_sum 2 = .ok (.putfield 133, 3) := by decide +kernel
theorem dX9_sum_5 : decode cX9_sum 5 = .ok (.aload_n 0, 1) := by decide +kernel
theorem dX9_sum_6 : decode cX9_sum 6 = .ok (.iload_n 1, 1) := by decide +kernel
theorem dX9_sum_7 : decode cX9_sum 7 = .ok (.iload_n 2, 1) := by decide +kernel
theorem dX9_sum_8 : decode cX9_sum 8 = .ok (.invokevirtual 339, 3) := by decide +kernel
theorem dX9_sum_11 : decode cX9_sum 11 = .ok (.ifCond .eq 46, 3) := by decide +kernel
theorem dX9_sum_14 : decode cX9_sum 14 = .ok (.iload_n 1, 1) := by decide +kernel
theorem dX9_sum_15 : decode cX9_sum 15 = .ok (.ifCond .ne 14, 3) := by decide +kernel
theorem dX9_sum_18 : decode cX9_sum 18 = .ok (.aload_n 0, 1) := by decide +kernel
theorem dX9_sum_19 : decode cX9_sum 19 = .ok (.iload_n 3, 1) := by decide +kernel
theorem dX9_sum_20 : decode cX9_sum 20 = .ok (.invokevirtual 275, 3) := by decide +kernel
theorem dX9_sum_23 : decode cX9_sum 23 = .ok (.ifCond .eq 34, 3) := by decide +kernel
theorem dX9_sum_26 : decode cX9_sum 26 = .ok (.goto 11, 3) := by decide +kernel
theorem dX9_sum_29 : decode cX9_sum 29 = .ok (.aload_n 0, 1) := by decide +kernel
theorem dX9_sum_30 : decode cX9_sum 30 = .ok (.iload_n 3, 1) := by decide +kernel
theorem dX9_sum_31 : decode cX9_sum 31 = .ok (.invokevirtual 272, 3) := by decide +kernel
theorem dX9_sum_34 : decode cX9_sum 34 = .ok (.ifCond .eq 23, 3) := by decide +kernel
theorem dX9_sum_37 : decode cX9_sum 37 = .ok (.aload_n 0, 1) := by decide +kernel
theorem dX9_sum_38 : decode cX9_sum 38 = .ok (.getfield 57, 3) := by decide +kernel
theorem dX9_sum_41 : decode cX9_sum 41 = .ok (.bipush 10, 2) := by decide +kernel
theorem dX9_sum_43 : decode cX9_sum 43 = .ok (.sipush 260, 3) := by decide +kernel
theorem dX9_sum_46 : decode cX9_sum 46 = .ok (.iload_n 1, 1) := by decide +kernel
theorem dX9_sum_47 : decode cX9_sum 47 = .ok (.imul, 1) := by decide +kernel
theorem dX9_sum_48 : decode cX9_sum 48 = .ok (.iload_n 2, 1) := by decide +kernel
theorem dX9_sum_49 : decode cX9_sum 49 = .ok (.iadd, 1) := by decide +kernel
theorem dX9_sum_50 : decode cX9_sum 50 = .ok (.imul, 1) := by decide +kernel
theorem dX9_sum_51 : decode cX9_sum 51 = .ok (.iload_n 3, 1) := by decide +kernel
theorem dX9_sum_52 : decode cX9_sum 52 = .ok (.iadd, 1) := by decide +kernel
theorem dX9_sum_53 : decode cX9_sum 53 = .ok (.iaload, 1) := by decide +kernel
theorem dX9_sum_54 : decode cX9_sum 54 = .ok (.goto 4, 3) := by decide +kernel
theorem dX9_sum_57 : decode cX9_sum 57 = .ok (.iconst (-1), 1) := by decide +kernel
theorem dX9_sum_58 : decode cX9_sum 58 = .ok (.ireturn, 1) := by decide +kernel
theorem dX9_support_0 : decode cX9_support 0 = .ok (.aload_n 0, 1) := by decide +kernel
theorem dX9_support_1 : decode cX9_support 1 = .ok (.aload_n 0, 1) := by decide +kernel
theorem dX9_support_2 : decode cX9_support 2 = .ok (.iload_n 1, 1) := by decide +kernel
theorem dX9_support_3 : decode cX9_support 3 = .ok (.iload_n 2, 1) := by decide +kernel
theorem dX9_support_4 : decode cX9_support 4 = .ok (.invokevirtual 339, 3) := by decide +kernel
theorem dX9_support_7 : decode cX9_support 7 = .ok (.ifCond .eq 7, 3) := by decide +kernel
theorem dX9_support_10 : decode cX9_support 10 = .ok (.iconst 0, 1) := by decide +kernel
theorem dX9_support_11 : decode cX9_support 11 = .ok (.goto 4, 3) := by decide +kernel
theorem dX9_support_14 : decode cX9_support 14 = .ok (.iconst 1, 1) := by decide +kernel
theorem dX9_support_15 : decode cX9_support 15 = .ok (.putfield 133, 3) := by decide +kernel
theorem dX9_support_18 : decode cX9_support 18 = .ok (.aload_n 0, 1) := by decide +kernel
theorem dX9_support_19 : decode cX9_support 19 = .ok (.getfield 133, 3) := by decide +kernel
theorem dX9_support_22 : decode cX9_support 22 = .ok (.ifCond .ne 18, 3) := by decide +kernel
theorem dX9_support_25 : decode cX9_support 25 = .ok (.aload_n 0, 1) := by decide +kernel
theorem dX9_support_26 : decode cX9_support 26 = .ok (.getfield 54, 3) := by decide +kernel
theorem dX9_support_29 : decode cX9_support 29 = .ok (.sipush 260, 3) := by decide +kernel
theorem dX9_support_32 : decode cX9_support 32 = .ok (.iload_n 1, 1) := by decide +kernel
theorem dX9_support_33 : decode cX9_support 33 = .ok (.imul, 1) := by decide +kernel
theorem dX9_support_34 : decode cX9_support 34 = .ok (.iload_n 2, 1) := by decide +kernel
theorem dX9_support_35 : decode cX9_support 35 = .ok (.iadd, 1) := by decide +kernel
theorem dX9_support_36 : decode cX9_support 36 = .ok (.iaload, 1) := by decide +kernel
theorem dX9_support_37 : decode cX9_support 37 = .ok (.goto 4, 3) := by decide +kernel
theorem dX9_support_40 : decode cX9_support 40 = .ok (.iconst 0, 1) := by decide +kernel
theorem dX9_support_41 : decode cX9_support 41 = .ok (.ireturn, 1) := by decide +kernel
theorem dX9_covered_0 : decode cX9_covered 0 = .ok (.aload_n 0, 1) := by decide +kernel
theorem dX9_covered_1 : decode cX9_covered 1 = .ok (.iconst 0, 1) := by decide +kernel
theorem dX9_covered_2 : decode cX9_covered 2 = .ok (.putfield 133, 3) := by decide +kernel
theorem dX9_covered_5 : decode cX9_covered 5 = .ok (.iload_n 1, 1) := by decide +kernel
theorem dX9_covered_6 : decode cX9_covered 6 = .ok (.iconst 0, 1) := by decide +kernel
theorem dX9_covered_7 : decode cX9_covered 7 = .ok (.iconst 1, 1) := by decide +kernel
theorem dX9_covered_8 : decode cX9_covered 8 = .ok (.invokestatic 136, 3) := by decide +kernel
theorem dX9_covered_11 : decode cX9_covered 11 = .ok (.ifCond .ne 5, 3) := by decide +kernel
theorem dX9_covered_14 : decode cX9_covered 14 = .ok (.iconst (-1), 1) := by decide +kernel
theorem dX9_covered_15 : decode cX9_covered 15 = .ok (.ireturn, 1) := by decide +kernel
theorem dX9_covered_16 : decode cX9_covered 16 = .ok (.aload_n 0, 1) := by decide +kernel
theorem dX9_covered_17 : decode cX9_covered 17 = .ok (.invokevirtual 336, 3) := by decide +kernel
theorem dX9_covered_20 : decode cX9_covered 20 = .ok (.iconst 0, 1) := by decide +kernel
theorem dX9_covered_21 : decode cX9_covered 21 = .ok (.istore_n 2, 1) := by decide +kernel
theorem dX9_covered_22 : decode cX9_covered 22 = .ok (.iconst 0, 1) := by decide +kernel
theorem dX9_covered_23 : decode cX9_covered 23 = .ok (.istore_n 3, 1) := by decide +kernel
theorem dX9_covered_24 : decode cX9_covered 24 = .ok (.iload_n 3, 1) := by decide +kernel
theorem dX9_covered_25 : decode cX9_covered 25 = .ok (.aload_n 0, 1) := by decide +kernel
theorem dX9_covered_26 : decode cX9_covered 26 = .ok (.getfield 63, 3) := by decide +kernel
theorem dX9_covered_29 : decode cX9_covered 29 = .ok (.iload_n 1, 1) := by decide +kernel
theorem dX9_covered_30 : decode cX9_covered 30 = .ok (.iaload, 1) := by decide +kernel
theorem dX9_covered_31 : decode cX9_covered 31 = .ok (.if_icmp .ge 24, 3) := by decide +kernel
theorem dX9_covered_34 : decode cX9_covered 34 = .ok (.iload_n 2, 1) := by decide +kernel
theorem dX9_covered_35 : decode cX9_covered 35 = .ok (.aload_n 0, 1) := by decide +kernel
theorem dX9_covered_36 : decode cX9_covered 36 = .ok (.getfield 54, 3) := by decide +kernel
theorem dX9_covered_39 : decode cX9_covered 39 = .ok (.sipush 260, 3) := by decide +kernel
theorem dX9_covered_42 : decode cX9_covered 42 = .ok (.iload_n 1, 1) := by decide +kernel
theorem dX9_covered_43 : decode cX9_covered 43 = .ok (.imul, 1) := by decide +kernel
theorem dX9_covered_44 : decode cX9_covered 44 = .ok (.iload_n 3, 1) := by decide +kernel
theorem dX9_covered_45 : decode cX9_covered 45 = .ok (.iadd, 1) := by decide +kernel
theorem dX9_covered_46 : decode cX9_covered 46 = .ok (.iaload, 1) := by decide +kernel
theorem dX9_covered_47 : decode cX9_covered 47 = .ok (.ior, 1) := by decide +kernel
theorem dX9_covered_48 : decode cX9_covered 48 = .ok (.istore_n 2, 1) := by decide +kernel
theorem dX9_covered_49 : decode cX9_covered 49 = .ok (.iinc 3 1, 3) := by decide +kernel
theorem dX9_covered_52 : decode cX9_covered 52 = .ok (.goto (-28), 3) := by decide +kernel
theorem dX9_covered_55 : decode cX9_covered 55 = .ok (.iload_n 2, 1) := by decide +kernel
theorem dX9_covered_56 : decode cX9_covered 56 = .ok (.ireturn, 1) := by decide +kernel
theorem dX9_valueOf_0 : decode cX9_valueOf 0 = .ok (.lconst 0, 1) := by decide +kernel
theorem dX9_valueOf_1 : decode cX9_valueOf 1 = .ok (.lstore_n 2, 1) := by decide +kernel
theorem dX9_valueOf_2 : decode cX9_valueOf 2 = .ok (.iconst 0, 1) := by decide +kernel
theorem dX9_valueOf_3 : decode cX9_valueOf 3 = .ok (.istore 4, 2) := by decide +kernel
theorem dX9_valueOf_5 : decode cX9_valueOf 5 = .ok (.iload 4, 2) := by decide +kernel
theorem dX9_valueOf_7 : decode cX9_valueOf 7 = .ok (.bipush 10, 2) := by decide +kernel
theorem dX9_valueOf_9 : decode cX9_valueOf 9 = .ok (.if_icmp .ge 34, 3) := by decide +kernel
theorem dX9_valueOf_12 : decode cX9_valueOf 12 = .ok (.lload_n 2, 1) := by decide +kernel
theorem dX9_valueOf_13 : decode cX9_valueOf 13 = .ok (.aload_n 0, 1) := by decide +kernel
theorem dX9_valueOf_14 : decode cX9_valueOf 14 = .ok (.getfield 57, 3) := by decide +kernel
theorem dX9_valueOf_17 : decode cX9_valueOf 17 = .ok (.bipush 10, 2) := by decide +kernel
theorem dX9_valueOf_19 : decode cX9_valueOf 19 = .ok (.iload_n 1, 1) := by decide +kernel
theorem dX9_valueOf_20 : decode cX9_valueOf 20 = .ok (.imul, 1) := by decide +kernel
theorem dX9_valueOf_21 : decode cX9_valueOf 21 = .ok (.iload 4, 2) := by decide +kernel
theorem dX9_valueOf_23 : decode cX9_valueOf 23 = .ok (.iadd, 1) := by decide +kernel
theorem dX9_valueOf_24 : decode cX9_valueOf 24 = .ok (.iaload, 1) := by decide +kernel
theorem dX9_valueOf_25 : decode cX9_valueOf 25 = .ok (.i2l, 1) := by decide +kernel
theorem dX9_valueOf_26 : decode cX9_valueOf 26 = .ok (.aload_n 0, 1) := by decide +kernel
theorem dX9_valueOf_27 : decode cX9_valueOf 27 = .ok (.getfield 16, 3) := by decide +kernel
theorem dX9_valueOf_30 : decode cX9_valueOf 30 = .ok (.iload 4, 2) := by decide +kernel
theorem dX9_valueOf_32 : decode cX9_valueOf 32 = .ok (.iaload, 1) := by decide +kernel
theorem dX9_valueOf_33 : decode cX9_valueOf 33 = .ok (.i2l, 1) := by decide +kernel
theorem dX9_valueOf_34 : decode cX9_valueOf 34 = .ok (.lmul, 1) := by decide +kernel
theorem dX9_valueOf_35 : decode cX9_valueOf 35 = .ok (.ladd, 1) := by decide +kernel
theorem dX9_valueOf_36 : decode cX9_valueOf 36 = .ok (.lstore_n 2, 1) := by decide +kernel
theorem dX9_valueOf_37 : decode cX9_valueOf 37 = .ok (.iinc 4 1, 3) := by decide +kernel
theorem dX9_valueOf_40 : decode cX9_valueOf 40 = .ok (.goto (-35), 3) := by decide +kernel
theorem dX9_valueOf_43 : decode cX9_valueOf 43 = .ok (.lload_n 2, 1) := by decide +kernel
theorem dX9_valueOf_44 : decode cX9_valueOf 44 = .ok (.lreturn, 1) := by decide +kernel
theorem dX9_value_0 : decode cX9_value 0 = .ok (.aload_n 0, 1) := by decide +kernel
theorem dX9_value_1 : decode cX9_value 1 = .ok (.iconst 0, 1) := by decide +kernel
theorem dX9_value_2 : decode cX9_value 2 = .ok (.putfield 133, 3) := by decide +kernel
theorem dX9_value_5 : decode cX9_value 5 = .ok (.aload_n 0, 1) := by decide +kernel
theorem dX9_value_6 : decode cX9_value 6 = .ok (.iconst 0, 1) := by decide +kernel
theorem dX9_value_7 : decode cX9_value 7 = .ok (.iload_n 1, 1) := by decide +kernel
theorem dX9_value_8 : decode cX9_value 8 = .ok (.invokevirtual 339, 3) := by decide +kernel
theorem dX9_value_11 : decode cX9_value 11 = .ok (.ifCond .eq 11, 3) := by decide +kernel
theorem dX9_value_14 : decode cX9_value 14 = .ok (.aload_n 0, 1) := by decide +kernel
theorem dX9_value_15 : decode cX9_value 15 = .ok (.iload_n 1, 1) := by decide +kernel
theorem dX9_value_16 : decode cX9_value 16 = .ok (.invokevirtual 342, 3) := by decide +kernel
theorem dX9_value_19 : decode cX9_value 19 = .ok (.goto 6, 3) := by decide +kernel
theorem dX9_value_22 : decode cX9_value 22 = .ok (.ldc2_w 346, 3) := by decide +kernel
theorem dX9_value_25 : decode cX9_value 25 = .ok (.lreturn, 1) := by decide +kernel
theorem dX9_bound_0 : decode cX9_bound 0 = .ok (.aload_n 0, 1) := by decide +kernel
theorem dX9_bound_1 : decode cX9_bound 1 = .ok (.iconst 0, 1) := by decide +kernel
theorem dX9_bound_2 : decode cX9_bound 2 = .ok (.putfield 133, 3) := by decide +kernel
theorem dX9_bound_5 : decode cX9_bound 5 = .ok (.ldc2_w 346, 3) := by decide +kernel
theorem dX9_bound_8 : decode cX9_bound 8 = .ok (.lstore_n 2, 1) := by decide +kernel
theorem dX9_bound_9 : decode cX9_bound 9 = .ok (.aload_n 0, 1) := by decide +kernel
theorem dX9_bound_10 : decode cX9_bound 10 = .ok (.iload_n 1, 1) := by decide +kernel
theorem dX9_bound_11 : decode cX9_bound 11 = .ok (.invokevirtual 275, 3) := by decide +kernel
theorem dX9_bound_14 : decode cX9_bound 14 = .ok (.ifCond .ne 5, 3) := by decide +kernel
theorem dX9_bound_17 : decode cX9_bound 17 = .ok (.lload_n 2, 1) := by decide +kernel
theorem dX9_bound_18 : decode cX9_bound 18 = .ok (.lreturn, 1) := by decide +kernel
theorem dX9_bound_19 : decode cX9_bound 19 = .ok (.aload_n 0, 1) := by decide +kernel
theorem dX9_bound_20 : decode cX9_bound 20 = .ok (.invokevirtual 336, 3) := by decide +kernel
theorem dX9_bound_23 : decode cX9_bound 23 = .ok (.iconst 0, 1) := by decide +kernel
theorem dX9_bound_24 : decode cX9_bound 24 = .ok (.istore 4, 2) := by decide +kernel
theorem dX9_bound_26 : decode cX9_bound 26 = .ok (.iload 4, 2) := by decide +kernel
theorem dX9_bound_28 : decode cX9_bound 28 = .ok (.aload_n 0, 1) := by decide +kernel
theorem dX9_bound_29 : decode cX9_bound 29 = .ok (.getfield 63, 3) := by decide +kernel
theorem dX9_bound_32 : decode cX9_bound 32 = .ok (.iconst 0, 1) := by decide +kernel
theorem dX9_bound_33 : decode cX9_bound 33 = .ok (.iaload, 1) := by decide +kernel
theorem dX9_bound_34 : decode cX9_bound 34 = .ok (.if_icmp .ge 71, 3) := by decide +kernel
theorem dX9_bound_37 : decode cX9_bound 37 = .ok (.aload_n 0, 1) := by decide +kernel
theorem dX9_bound_38 : decode cX9_bound 38 = .ok (.getfield 57, 3) := by decide +kernel
theorem dX9_bound_41 : decode cX9_bound 41 = .ok (.bipush 10, 2) := by decide +kernel
theorem dX9_bound_43 : decode cX9_bound 43 = .ok (.iload 4, 2) := by decide +kernel
theorem dX9_bound_45 : decode cX9_bound 45 = .ok (.imul, 1) := by decide +kernel
theorem dX9_bound_46 : decode cX9_bound 46 = .ok (.iload_n 1, 1) := by decide +kernel
theorem dX9_bound_47 : decode cX9_bound 47 = .ok (.iadd, 1) := by decide +kernel
theorem dX9_bound_48 : decode cX9_bound 48 = .ok (.iaload, 1) := by decide +kernel
theorem dX9_bound_49 : decode cX9_bound 49 = .ok (.istore 5, 2) := by decide +kernel
theorem dX9_bound_51 : decode cX9_bound 51 = .ok (.iload 5, 2) := by decide +kernel
theorem dX9_bound_53 : decode cX9_bound 53 = .ok (.ifCond .ne 9, 3) := by decide +kernel
theorem dX9_bound_56 : decode cX9_bound 56 = .ok (.ldc2_w 346, 3) := by decide +kernel
theorem dX9_bound_59 : decode cX9_bound 59 = .ok (.goto 13, 3) := by decide +kernel
theorem dX9_bound_62 : decode cX9_bound 62 = .ok (.aload_n 0, 1) := by decide +kernel
theorem dX9_bound_63 : decode cX9_bound 63 = .ok (.iload 4, 2) := by decide +kernel
theorem dX9_bound_65 : decode cX9_bound 65 = .ok (.invokevirtual 342, 3) := by decide +kernel
theorem dX9_bound_68 : decode cX9_bound 68 = .ok (.iload 5, 2) := by decide +kernel
theorem dX9_bound_70 : decode cX9_bound 70 = .ok (.i2l, 1) := by decide +kernel
theorem dX9_bound_71 : decode cX9_bound 71 = .ok (.ldiv, 1) := by decide +kernel
theorem dX9_bound_72 : decode cX9_bound 72 = .ok (.lstore 6, 2) := by decide +kernel
theorem dX9_bound_74 : decode cX9_bound 74 = .ok (.iload 5, 2) := by decide +kernel
theorem dX9_bound_76 : decode cX9_bound 76 = .ok (.ifCond .le 21, 3) := by decide +kernel
theorem dX9_bound_79 : decode cX9_bound 79 = .ok (.lload_n 2, 1) := by decide +kernel
theorem dX9_bound_80 : decode cX9_bound 80 = .ok (.lconst 0, 1) := by decide +kernel
theorem dX9_bound_81 : decode cX9_bound 81 = .ok (.lcmp, 1) := by decide +kernel
theorem dX9_bound_82 : decode cX9_bound 82 = .ok (.ifCond .lt 10, 3) := by decide +kernel
theorem dX9_bound_85 : decode cX9_bound 85 = .ok (.lload 6, 2) := by decide +kernel
theorem dX9_bound_87 : decode cX9_bound 87 = .ok (.lload_n 2, 1) := by decide +kernel
theorem dX9_bound_88 : decode cX9_bound 88 = .ok (.lcmp, 1) := by decide +kernel
theorem dX9_bound_89 : decode cX9_bound 89 = .ok (.ifCond .ge 8, 3) := by decide +kernel
theorem dX9_bound_92 : decode cX9_bound 92 = .ok (.lload 6, 2) := by decide +kernel
theorem dX9_bound_94 : decode cX9_bound 94 = .ok (.goto 4, 3) := by decide +kernel
theorem dX9_bound_97 : decode cX9_bound 97 = .ok (.lload_n 2, 1) := by decide +kernel
theorem dX9_bound_98 : decode cX9_bound 98 = .ok (.lstore_n 2, 1) := by decide +kernel
theorem dX9_bound_99 : decode cX9_bound 99 = .ok (.iinc 4 1, 3) := by decide +kernel
theorem dX9_bound_102 : decode cX9_bound 102 = .ok (.goto (-76), 3) := by decide +kernel
theorem dX9_bound_105 : decode cX9_bound 105 = .ok (.lload_n 2, 1) := by decide +kernel
theorem dX9_bound_106 : decode cX9_bound 106 = .ok (.lreturn, 1) := by decide +kernel
theorem dX9_siphons_0 : decode cX9_siphons 0 = .ok (.aload_n 0, 1) := by decide +kernel
theorem dX9_siphons_1 : decode cX9_siphons 1 = .ok (.iconst 0, 1) := by decide +kernel
theorem dX9_siphons_2 : decode cX9_siphons 2 = .ok (.putfield 133, 3) := by decide +kernel
theorem dX9_siphons_5 : decode cX9_siphons 5 = .ok (.iload_n 1, 1) := by decide +kernel
theorem dX9_siphons_6 : decode cX9_siphons 6 = .ok (.iconst 0, 1) := by decide +kernel
theorem dX9_siphons_7 : decode cX9_siphons 7 = .ok (.iconst 1, 1) := by decide +kernel
theorem dX9_siphons_8 : decode cX9_siphons 8 = .ok (.invokestatic 136, 3) := by decide +kernel
theorem dX9_siphons_11 : decode cX9_siphons 11 = .ok (.ifCond .ne 5, 3) := by decide +kernel
theorem dX9_siphons_14 : decode cX9_siphons 14 = .ok (.iconst (-1), 1) := by decide +kernel
theorem dX9_siphons_15 : decode cX9_siphons 15 = .ok (.ireturn, 1) := by decide +kernel
theorem dX9_siphons_16 : decode cX9_siphons 16 = .ok (.aload_n 0, 1) := by decide +kernel
theorem dX9_siphons_17 : decode cX9_siphons 17 = .ok (.invokevirtual 336, 3) := by decide +kernel
theorem dX9_siphons_20 : decode cX9_siphons 20 = .ok (.aload_n 0, 1) := by decide +kernel
theorem dX9_siphons_21 : decode cX9_siphons 21 = .ok (.getfield 66, 3) := by decide +kernel
theorem dX9_siphons_24 : decode cX9_siphons 24 = .ok (.iload_n 1, 1) := by decide +kernel
theorem dX9_siphons_25 : decode cX9_siphons 25 = .ok (.iaload, 1) := by decide +kernel
theorem dX9_siphons_26 : decode cX9_siphons 26 = .ok (.ireturn, 1) := by decide +kernel
theorem dX9_siphon_0 : decode cX9_siphon 0 = .ok (.aload_n 0, 1) := by decide +kernel
theorem dX9_siphon_1 : decode cX9_siphon 1 = .ok (.invokevirtual 336, 3) := by decide +kernel
theorem dX9_siphon_4 : decode cX9_siphon 4 = .ok (.aload_n 0, 1) := by decide +kernel
theorem dX9_siphon_5 : decode cX9_siphon 5 = .ok (.iload_n 1, 1) := by decide +kernel
theorem dX9_siphon_6 : decode cX9_siphon 6 = .ok (.iconst 0, 1) := by decide +kernel
theorem dX9_siphon_7 : decode cX9_siphon 7 = .ok (.iconst 1, 1) := by decide +kernel
theorem dX9_siphon_8 : decode cX9_siphon 8 = .ok (.invokestatic 136, 3) := by decide +kernel
theorem dX9_siphon_11 : decode cX9_siphon 11 = .ok (.ifCond .eq 23, 3) := by decide +kernel
theorem dX9_siphon_14 : decode cX9_siphon 14 = .ok (.iload_n 2, 1) := by decide +kernel
theorem dX9_siphon_15 : decode cX9_siphon 15 = .ok (.iconst 0, 1) := by decide +kernel
theorem dX9_siphon_16 : decode cX9_siphon 16 = .ok (.aload_n 0, 1) := by decide +kernel
theorem dX9_siphon_17 : decode cX9_siphon 17 = .ok (.getfield 66, 3) := by decide +kernel
theorem dX9_siphon_20 : decode cX9_siphon 20 = .ok (.iload_n 1, 1) := by decide +kernel
theorem dX9_siphon_21 : decode cX9_siphon 21 = .ok (.iaload, 1) := by decide +kernel
theorem dX9_siphon_22 : decode cX9_siphon 22 = .ok (.iconst 1, 1) := by decide +kernel
theorem dX9_siphon_23 : decode cX9_siphon 23 = .ok (.isub, 1) := by decide +kernel
theorem dX9_siphon_24 : decode cX9_siphon 24 = .ok (.invokestatic 136, 3) := by decide +kernel
theorem dX9_siphon_27 : decode cX9_siphon 27 = .ok (.ifCond .eq 7, 3) := by decide +kernel
theorem dX9_siphon_30 : decode cX9_siphon 30 = .ok (.iconst 0, 1) := by decide +kernel
theorem dX9_siphon_31 : decode cX9_siphon 31 = .ok (.goto 4, 3) := by decide +kernel
theorem dX9_siphon_34 : decode cX9_siphon 34 = .ok (.iconst 1, 1) := by decide +kernel
theorem dX9_siphon_35 : decode cX9_siphon 35 = .ok (.putfield 133, 3) := by decide +kernel
theorem dX9_siphon_38 : decode cX9_siphon 38 = .ok (.aload_n 0, 1) := by decide +kernel
theorem dX9_siphon_39 : decode cX9_siphon 39 = .ok (.getfield 133, 3) := by decide +kernel
theorem dX9_siphon_42 : decode cX9_siphon 42 = .ok (.ifCond .ne 18, 3) := by decide +kernel
theorem dX9_siphon_45 : decode cX9_siphon 45 = .ok (.aload_n 0, 1) := by decide +kernel
theorem dX9_siphon_46 : decode cX9_siphon 46 = .ok (.getfield 60, 3) := by decide +kernel
theorem dX9_siphon_49 : decode cX9_siphon 49 = .ok (.sipush 260, 3) := by decide +kernel
theorem dX9_siphon_52 : decode cX9_siphon 52 = .ok (.iload_n 1, 1) := by decide +kernel
theorem dX9_siphon_53 : decode cX9_siphon 53 = .ok (.imul, 1) := by decide +kernel
theorem dX9_siphon_54 : decode cX9_siphon 54 = .ok (.iload_n 2, 1) := by decide +kernel
theorem dX9_siphon_55 : decode cX9_siphon 55 = .ok (.iadd, 1) := by decide +kernel
theorem dX9_siphon_56 : decode cX9_siphon 56 = .ok (.iaload, 1) := by decide +kernel
theorem dX9_siphon_57 : decode cX9_siphon 57 = .ok (.goto 4, 3) := by decide +kernel
theorem dX9_siphon_60 : decode cX9_siphon 60 = .ok (.iconst 0, 1) := by decide +kernel
theorem dX9_siphon_61 : decode cX9_siphon 61 = .ok (.ireturn, 1) := by decide +kernel
theorem dX9_isSiphon_0 : decode cX9_isSiphon 0 = .ok (.aload_n 0, 1) := by decide +kernel
theorem dX9_isSiphon_1 : decode cX9_isSiphon 1 = .ok (.iconst 0, 1) := by decide +kernel
theorem dX9_isSiphon_2 : decode cX9_isSiphon 2 = .ok (.putfield 133, 3) := by decide +kernel
theorem dX9_isSiphon_5 : decode cX9_isSiphon 5 = .ok (.iload_n 1, 1) := by decide +kernel
theorem dX9_isSiphon_6 : decode cX9_isSiphon 6 = .ok (.iconst 0, 1) := by decide +kernel
theorem dX9_isSiphon_7 : decode cX9_isSiphon 7 = .ok (.iconst 1, 1) := by decide +kernel
theorem dX9_isSiphon_8 : decode cX9_isSiphon 8 = .ok (.invokestatic 136, 3) := by decide +kernel
theorem dX9_isSiphon_11 : decode cX9_isSiphon 11 = .ok (.ifCond .ne 5, 3) := by decide +kernel
theorem dX9_isSiphon_14 : decode cX9_isSiphon 14 = .ok (.iconst (-1), 1) := by decide +kernel
theorem dX9_isSiphon_15 : decode cX9_isSiphon 15 = .ok (.ireturn, 1) := by decide +kernel
theorem dX9_isSiphon_16 : decode cX9_isSiphon 16 = .ok (.iload_n 2, 1) := by decide +kernel
theorem dX9_isSiphon_17 : decode cX9_isSiphon 17 = .ok (.ifCond .eq 29, 3) := by decide +kernel
theorem dX9_isSiphon_20 : decode cX9_isSiphon 20 = .ok (.iload_n 2, 1) := by decide +kernel
theorem dX9_isSiphon_21 : decode cX9_isSiphon 21 = .ok (.aload_n 0, 1) := by decide +kernel
theorem dX9_isSiphon_22 : decode cX9_isSiphon 22 = .ok (.getfield 19, 3) := by decide +kernel
theorem dX9_isSiphon_25 : decode cX9_isSiphon 25 = .ok (.iconst 0, 1) := by decide +kernel
theorem dX9_isSiphon_26 : decode cX9_isSiphon 26 = .ok (.iaload, 1) := by decide +kernel
theorem dX9_isSiphon_27 : decode cX9_isSiphon 27 = .ok (.iconst (-1), 1) := by decide +kernel
theorem dX9_isSiphon_28 : decode cX9_isSiphon 28 = .ok (.ixor, 1) := by decide +kernel
theorem dX9_isSiphon_29 : decode cX9_isSiphon 29 = .ok (.iand, 1) := by decide +kernel
theorem dX9_isSiphon_30 : decode cX9_isSiphon 30 = .ok (.ifCond .ne 16, 3) := by decide +kernel
theorem dX9_isSiphon_33 : decode cX9_isSiphon 33 = .ok (.aload_n 0, 1) := by decide +kernel
theorem dX9_isSiphon_34 : decode cX9_isSiphon 34 = .ok (.iload_n 1, 1) := by decide +kernel
theorem dX9_isSiphon_35 : decode cX9_isSiphon 35 = .ok (.iload_n 2, 1) := by decide +kernel
theorem dX9_isSiphon_36 : decode cX9_isSiphon 36 = .ok (.invokevirtual 326, 3) := by decide +kernel
theorem dX9_isSiphon_39 : decode cX9_isSiphon 39 = .ok (.ifCond .eq 7, 3) := by decide +kernel
theorem dX9_isSiphon_42 : decode cX9_isSiphon 42 = .ok (.iconst 1, 1) := by decide +kernel
theorem dX9_isSiphon_43 : decode cX9_isSiphon 43 = .ok (.goto 4, 3) := by decide +kernel
theorem dX9_isSiphon_46 : decode cX9_isSiphon 46 = .ok (.iconst 0, 1) := by decide +kernel
theorem dX9_isSiphon_47 : decode cX9_isSiphon 47 = .ok (.ireturn, 1) := by decide +kernel
theorem dX9_greatest_0 : decode cX9_greatest 0 = .ok (.aload_n 0, 1) := by decide +kernel
theorem dX9_greatest_1 : decode cX9_greatest 1 = .ok (.iconst 0, 1) := by decide +kernel
theorem dX9_greatest_2 : decode cX9_greatest 2 = .ok (.putfield 133, 3) := by decide +kernel
theorem dX9_greatest_5 : decode cX9_greatest 5 = .ok (.iload_n 1, 1) := by decide +kernel
theorem dX9_greatest_6 : decode cX9_greatest 6 = .ok (.iconst 0, 1) := by decide +kernel
theorem dX9_greatest_7 : decode cX9_greatest 7 = .ok (.iconst 1, 1) := by decide +kernel
theorem dX9_greatest_8 : decode cX9_greatest 8 = .ok (.invokestatic 136, 3) := by decide +kernel
theorem dX9_greatest_11 : decode cX9_greatest 11 = .ok (.ifCond .eq 12, 3) := by decide +kernel
theorem dX9_greatest_14 : decode cX9_greatest 14 = .ok (.aload_n 0, 1) := by decide +kernel
theorem dX9_greatest_15 : decode cX9_greatest 15 = .ok (.iload_n 1, 1) := by decide +kernel
theorem dX9_greatest_16 : decode cX9_greatest 16 = .ok (.iload_n 2, 1) := by decide +kernel
theorem dX9_greatest_17 : decode cX9_greatest 17 = .ok (.invokevirtual 348, 3) := by decide +kernel
theorem dX9_greatest_20 : decode cX9_greatest 20 = .ok (.goto 4, 3) := by decide +kernel
theorem dX9_greatest_23 : decode cX9_greatest 23 = .ok (.iconst (-1), 1) := by decide +kernel
theorem dX9_greatest_24 : decode cX9_greatest 24 = .ok (.ireturn, 1) := by decide +kernel
theorem dX9_filled_0 : decode cX9_filled 0 = .ok (.iconst 0, 1) := by decide +kernel
theorem dX9_filled_1 : decode cX9_filled 1 = .ok (.istore_n 1, 1) := by decide +kernel
theorem dX9_filled_2 : decode cX9_filled 2 = .ok (.iconst 0, 1) := by decide +kernel
theorem dX9_filled_3 : decode cX9_filled 3 = .ok (.istore_n 2, 1) := by decide +kernel
theorem dX9_filled_4 : decode cX9_filled 4 = .ok (.iload_n 2, 1) := by decide +kernel
theorem dX9_filled_5 : decode cX9_filled 5 = .ok (.bipush 10, 2) := by decide +kernel
theorem dX9_filled_7 : decode cX9_filled 7 = .ok (.if_icmp .ge 28, 3) := by decide +kernel
theorem dX9_filled_10 : decode cX9_filled 10 = .ok (.iload_n 1, 1) := by decide +kernel
theorem dX9_filled_11 : decode cX9_filled 11 = .ok (.aload_n 0, 1) := by decide +kernel
theorem dX9_filled_12 : decode cX9_filled 12 = .ok (.getfield 16, 3) := by decide +kernel
theorem dX9_filled_15 : decode cX9_filled 15 = .ok (.iload_n 2, 1) := by decide +kernel
theorem dX9_filled_16 : decode cX9_filled 16 = .ok (.iaload, 1) := by decide +kernel
theorem dX9_filled_17 : decode cX9_filled 17 = .ok (.ifCond .le 9, 3) := by decide +kernel
theorem dX9_filled_20 : decode cX9_filled 20 = .ok (.iconst 1, 1) := by decide +kernel
theorem dX9_filled_21 : decode cX9_filled 21 = .ok (.iload_n 2, 1) := by decide +kernel
theorem dX9_filled_22 : decode cX9_filled 22 = .ok (.ishl, 1) := by decide +kernel
theorem dX9_filled_23 : decode cX9_filled 23 = .ok (.goto 4, 3) := by decide +kernel
theorem dX9_filled_26 : decode cX9_filled 26 = .ok (.iconst 0, 1) := by decide +kernel
theorem dX9_filled_27 : decode cX9_filled 27 = .ok (.ior, 1) := by decide +kernel
theorem dX9_filled_28 : decode cX9_filled 28 = .ok (.istore_n 1, 1) := by decide +kernel
theorem dX9_filled_29 : decode cX9_filled 29 = .ok (.iinc 2 1, 3) := by decide +kernel
theorem dX9_filled_32 : decode cX9_filled 32 = .ok (.goto (-28), 3) := by decide +kernel
theorem dX9_filled_35 : decode cX9_filled 35 = .ok (.iload_n 1, 1) := by decide +kernel
theorem dX9_filled_36 : decode cX9_filled 36 = .ok (.ireturn, 1) := by decide +kernel
theorem dX9_unguarded_0 : decode cX9_unguarded 0 = .ok (.aload_n 0, 1) := by decide +kernel
theorem dX9_unguarded_1 : decode cX9_unguarded 1 = .ok (.iconst 0, 1) := by decide +kernel
theorem dX9_unguarded_2 : decode cX9_unguarded 2 = .ok (.putfield 133, 3) := by decide +kernel
theorem dX9_unguarded_5 : decode cX9_unguarded 5 = .ok (.aload_n 0, 1) := by decide +kernel
theorem dX9_unguarded_6 : decode cX9_unguarded 6 = .ok (.invokevirtual 336, 3) := by decide +kernel
theorem dX9_unguarded_9 : decode cX9_unguarded 9 = .ok (.iconst 0, 1) := by decide +kernel
theorem dX9_unguarded_10 : decode cX9_unguarded 10 = .ok (.istore_n 2, 1) := by decide +kernel
theorem dX9_unguarded_11 : decode cX9_unguarded 11 = .ok (.iconst 0, 1) := by decide +kernel
theorem dX9_unguarded_12 : decode cX9_unguarded 12 = .ok (.istore_n 3, 1) := by decide +kernel
theorem dX9_unguarded_13 : decode cX9_unguarded 13 = .ok (.iload_n 3, 1) := by decide +kernel
theorem dX9_unguarded_14 : decode cX9_unguarded 14 = .ok (.aload_n 0, 1) := by decide +kernel
theorem dX9_unguarded_15 : decode cX9_unguarded 15 = .ok (.getfield 66, 3) := by decide +kernel
theorem dX9_unguarded_18 : decode cX9_unguarded 18 = .ok (.iconst 0, 1) := by decide +kernel
theorem dX9_unguarded_19 : decode cX9_unguarded 19 = .ok (.iaload, 1) := by decide +kernel
theorem dX9_unguarded_20 : decode cX9_unguarded 20 = .ok (.if_icmp .ge 46, 3) := by decide +kernel
theorem dX9_unguarded_23 : decode cX9_unguarded 23 = .ok (.aload_n 0, 1) := by decide +kernel
theorem dX9_unguarded_24 : decode cX9_unguarded 24 = .ok (.iconst 1, 1) := by decide +kernel
theorem dX9_unguarded_25 : decode cX9_unguarded 25 = .ok (.aload_n 0, 1) := by decide +kernel
theorem dX9_unguarded_26 : decode cX9_unguarded 26 = .ok (.getfield 60, 3) := by decide +kernel
theorem dX9_unguarded_29 : decode cX9_unguarded 29 = .ok (.iload_n 3, 1) := by decide +kernel
theorem dX9_unguarded_30 : decode cX9_unguarded 30 = .ok (.iaload, 1) := by decide +kernel
theorem dX9_unguarded_31 : decode cX9_unguarded 31 = .ok (.invokevirtual 348, 3) := by decide +kernel
theorem dX9_unguarded_34 : decode cX9_unguarded 34 = .ok (.aload_n 0, 1) := by decide +kernel
theorem dX9_unguarded_35 : decode cX9_unguarded 35 = .ok (.invokevirtual 351, 3) := by decide +kernel
theorem dX9_unguarded_38 : decode cX9_unguarded 38 = .ok (.iand, 1) := by decide +kernel
theorem dX9_unguarded_39 : decode cX9_unguarded 39 = .ok (.ifCond .eq 6, 3) := by decide +kernel
theorem dX9_unguarded_42 : decode cX9_unguarded 42 = .ok (.goto 18, 3) := by decide +kernel
theorem dX9_unguarded_45 : decode cX9_unguarded 45 = .ok (.iload_n 2, 1) := by decide +kernel
theorem dX9_unguarded_46 : decode cX9_unguarded 46 = .ok (.iload_n 1, 1) := by decide +kernel
theorem dX9_unguarded_47 : decode cX9_unguarded 47 = .ok (.if_icmp .ne 10, 3) := by decide +kernel
theorem dX9_unguarded_50 : decode cX9_unguarded 50 = .ok (.aload_n 0, 1) := by decide +kernel
theorem dX9_unguarded_51 : decode cX9_unguarded 51 = .ok (.getfield 60, 3) := by decide +kernel
theorem dX9_unguarded_54 : decode cX9_unguarded 54 = .ok (.iload_n 3, 1) := by decide +kernel
theorem dX9_unguarded_55 : decode cX9_unguarded 55 = .ok (.iaload, 1) := by decide +kernel
theorem dX9_unguarded_56 : decode cX9_unguarded 56 = .ok (.ireturn, 1) := by decide +kernel
theorem dX9_unguarded_57 : decode cX9_unguarded 57 = .ok (.iinc 2 1, 3) := by decide +kernel
theorem dX9_unguarded_60 : decode cX9_unguarded 60 = .ok (.iinc 3 1, 3) := by decide +kernel
theorem dX9_unguarded_63 : decode cX9_unguarded 63 = .ok (.goto (-50), 3) := by decide +kernel
theorem dX9_unguarded_66 : decode cX9_unguarded 66 = .ok (.iload_n 1, 1) := by decide +kernel
theorem dX9_unguarded_67 : decode cX9_unguarded 67 = .ok (.iconst (-1), 1) := by decide +kernel
theorem dX9_unguarded_68 : decode cX9_unguarded 68 = .ok (.if_icmp .ne 7, 3) := by decide +kernel
theorem dX9_unguarded_71 : decode cX9_unguarded 71 = .ok (.iload_n 2, 1) := by decide +kernel
theorem dX9_unguarded_72 : decode cX9_unguarded 72 = .ok (.goto 4, 3) := by decide +kernel
theorem dX9_unguarded_75 : decode cX9_unguarded 75 = .ok (.iconst (-1), 1) := by decide +kernel
theorem dX9_unguarded_76 : decode cX9_unguarded 76 = .ok (.ireturn, 1) := by decide +kernel
theorem dX9_lost_0 : decode cX9_lost 0 = .ok (.aload_n 0, 1) := by decide +kernel
theorem dX9_lost_1 : decode cX9_lost 1 = .ok (.iconst 0, 1) := by decide +kernel
theorem dX9_lost_2 : decode cX9_lost 2 = .ok (.putfield 133, 3) := by decide +kernel
theorem dX9_lost_5 : decode cX9_lost 5 = .ok (.aload_n 0, 1) := by decide +kernel
theorem dX9_lost_6 : decode cX9_lost 6 = .ok (.iconst 0, 1) := by decide +kernel
theorem dX9_lost_7 : decode cX9_lost 7 = .ok (.aload_n 0, 1) := by decide +kernel
theorem dX9_lost_8 : decode cX9_lost 8 = .ok (.invokevirtual 351, 3) := by decide +kernel
theorem dX9_lost_11 : decode cX9_lost 11 = .ok (.iconst (-1), 1) := by decide +kernel
theorem dX9_lost_12 : decode cX9_lost 12 = .ok (.ixor, 1) := by decide +kernel
theorem dX9_lost_13 : decode cX9_lost 13 = .ok (.invokevirtual 348, 3) := by decide +kernel
theorem dX9_lost_16 : decode cX9_lost 16 = .ok (.istore_n 1, 1) := by decide +kernel
theorem dX9_lost_17 : decode cX9_lost 17 = .ok (.iconst 0, 1) := by decide +kernel
theorem dX9_lost_18 : decode cX9_lost 18 = .ok (.istore_n 2, 1) := by decide +kernel
theorem dX9_lost_19 : decode cX9_lost 19 = .ok (.iconst 0, 1) := by decide +kernel
theorem dX9_lost_20 : decode cX9_lost 20 = .ok (.istore_n 3, 1) := by decide +kernel
theorem dX9_lost_21 : decode cX9_lost 21 = .ok (.iload_n 3, 1) := by decide +kernel
theorem dX9_lost_22 : decode cX9_lost 22 = .ok (.bipush 8, 2) := by decide +kernel
theorem dX9_lost_24 : decode cX9_lost 24 = .ok (.if_icmp .ge 30, 3) := by decide +kernel
theorem dX9_lost_27 : decode cX9_lost 27 = .ok (.iload_n 2, 1) := by decide +kernel
theorem dX9_lost_28 : decode cX9_lost 28 = .ok (.aload_n 0, 1) := by decide +kernel
theorem dX9_lost_29 : decode cX9_lost 29 = .ok (.iload_n 3, 1) := by decide +kernel
theorem dX9_lost_30 : decode cX9_lost 30 = .ok (.iconst 1, 1) := by decide +kernel
theorem dX9_lost_31 : decode cX9_lost 31 = .ok (.invokevirtual 332, 3) := by decide +kernel
theorem dX9_lost_34 : decode cX9_lost 34 = .ok (.iload_n 1, 1) := by decide +kernel
theorem dX9_lost_35 : decode cX9_lost 35 = .ok (.iand, 1) := by decide +kernel
theorem dX9_lost_36 : decode cX9_lost 36 = .ok (.ifCond .eq 9, 3) := by decide +kernel
theorem dX9_lost_39 : decode cX9_lost 39 = .ok (.iconst 1, 1) := by decide +kernel
theorem dX9_lost_40 : decode cX9_lost 40 = .ok (.iload_n 3, 1) := by decide +kernel
theorem dX9_lost_41 : decode cX9_lost 41 = .ok (.ishl, 1) := by decide +kernel
theorem dX9_lost_42 : decode cX9_lost 42 = .ok (.goto 4, 3) := by decide +kernel
theorem dX9_lost_45 : decode cX9_lost 45 = .ok (.iconst 0, 1) := by decide +kernel
theorem dX9_lost_46 : decode cX9_lost 46 = .ok (.ior, 1) := by decide +kernel
theorem dX9_lost_47 : decode cX9_lost 47 = .ok (.istore_n 2, 1) := by decide +kernel
theorem dX9_lost_48 : decode cX9_lost 48 = .ok (.iinc 3 1, 3) := by decide +kernel
theorem dX9_lost_51 : decode cX9_lost 51 = .ok (.goto (-30), 3) := by decide +kernel
theorem dX9_lost_54 : decode cX9_lost 54 = .ok (.iload_n 2, 1) := by decide +kernel
theorem dX9_lost_55 : decode cX9_lost 55 = .ok (.ireturn, 1) := by decide +kernel
theorem dX9_aim_0 : decode cX9_aim 0 = .ok (.aload_n 0, 1) := by decide +kernel
theorem dX9_aim_1 : decode cX9_aim 1 = .ok (.iconst 0, 1) := by decide +kernel
theorem dX9_aim_2 : decode cX9_aim 2 = .ok (.putfield 133, 3) := by decide +kernel
theorem dX9_aim_5 : decode cX9_aim 5 = .ok (.aload_n 0, 1) := by decide +kernel
theorem dX9_aim_6 : decode cX9_aim 6 = .ok (.iload_n 1, 1) := by decide +kernel
theorem dX9_aim_7 : decode cX9_aim 7 = .ok (.invokevirtual 275, 3) := by decide +kernel
theorem dX9_aim_10 : decode cX9_aim 10 = .ok (.ifCond .eq 14, 3) := by decide +kernel
theorem dX9_aim_13 : decode cX9_aim 13 = .ok (.iload_n 2, 1) := by decide +kernel
theorem dX9_aim_14 : decode cX9_aim 14 = .ok (.iconst 0, 1) := by decide +kernel
theorem dX9_aim_15 : decode cX9_aim 15 = .ok (.sipush 999, 3) := by decide +kernel
theorem dX9_aim_18 : decode cX9_aim 18 = .ok (.invokestatic 136, 3) := by decide +kernel
theorem dX9_aim_21 : decode cX9_aim 21 = .ok (.ifCond .ne 5, 3) := by decide +kernel
theorem dX9_aim_24 : decode cX9_aim 24 = .ok (.iconst (-1), 1) := by decide +kernel
theorem dX9_aim_25 : decode cX9_aim 25 = .ok (.ireturn, 1) := by decide +kernel
theorem dX9_aim_26 : decode cX9_aim 26 = .ok (.aload_n 0, 1) := by decide +kernel
theorem dX9_aim_27 : decode cX9_aim 27 = .ok (.getfield 31, 3) := by decide +kernel
theorem dX9_aim_30 : decode cX9_aim 30 = .ok (.iload_n 1, 1) := by decide +kernel
theorem dX9_aim_31 : decode cX9_aim 31 = .ok (.iaload, 1) := by decide +kernel
theorem dX9_aim_32 : decode cX9_aim 32 = .ok (.istore_n 3, 1) := by decide +kernel
theorem dX9_aim_33 : decode cX9_aim 33 = .ok (.aload_n 0, 1) := by decide +kernel
theorem dX9_aim_34 : decode cX9_aim 34 = .ok (.getfield 31, 3) := by decide +kernel
theorem dX9_aim_37 : decode cX9_aim 37 = .ok (.iload_n 1, 1) := by decide +kernel
theorem dX9_aim_38 : decode cX9_aim 38 = .ok (.iload_n 2, 1) := by decide +kernel
theorem dX9_aim_39 : decode cX9_aim 39 = .ok (.iastore, 1) := by decide +kernel
theorem dX9_aim_40 : decode cX9_aim 40 = .ok (.aload_n 0, 1) := by decide +kernel
theorem dX9_aim_41 : decode cX9_aim 41 = .ok (.iconst 0, 1) := by decide +kernel
theorem dX9_aim_42 : decode cX9_aim 42 = .ok (.putfield 257, 3) := by decide +kernel
theorem dX9_aim_45 : decode cX9_aim 45 = .ok (.iload_n 3, 1) := by decide +kernel
theorem dX9_aim_46 : decode cX9_aim 46 = .ok (.ireturn, 1) := by decide +kernel
theorem dX9_isAim_0 : decode cX9_isAim 0 = .ok (.iconst 0, 1) := by decide +kernel
theorem dX9_isAim_1 : decode cX9_isAim 1 = .ok (.istore_n 3, 1) := by decide +kernel
theorem dX9_isAim_2 : decode cX9_isAim 2 = .ok (.iload_n 3, 1) := by decide +kernel
theorem dX9_isAim_3 : decode cX9_isAim 3 = .ok (.bipush 10, 2) := by decide +kernel
theorem dX9_isAim_5 : decode cX9_isAim 5 = .ok (.if_icmp .ge 38, 3) := by decide +kernel
theorem dX9_isAim_8 : decode cX9_isAim 8 = .ok (.aload_n 0, 1) := by decide +kernel
theorem dX9_isAim_9 : decode cX9_isAim 9 = .ok (.getfield 19, 3) := by decide +kernel
theorem dX9_isAim_12 : decode cX9_isAim 12 = .ok (.iconst 0, 1) := by decide +kernel
theorem dX9_isAim_13 : decode cX9_isAim 13 = .ok (.iaload, 1) := by decide +kernel
theorem dX9_isAim_14 : decode cX9_isAim 14 = .ok (.iload_n 3, 1) := by decide +kernel
theorem dX9_isAim_15 : decode cX9_isAim 15 = .ok (.invokestatic 140, 3) := by decide +kernel
theorem dX9_isAim_18 : decode cX9_isAim 18 = .ok (.ifCond .eq 19, 3) := by decide +kernel
theorem dX9_isAim_21 : decode cX9_isAim 21 = .ok (.aload_n 1, 1) := by decide +kernel
theorem dX9_isAim_22 : decode cX9_isAim 22 = .ok (.iload_n 2, 1) := by decide +kernel
theorem dX9_isAim_23 : decode cX9_isAim 23 = .ok (.iload_n 3, 1) := by decide +kernel
theorem dX9_isAim_24 : decode cX9_isAim 24 = .ok (.iadd, 1) := by decide +kernel
theorem dX9_isAim_25 : decode cX9_isAim 25 = .ok (.iaload, 1) := by decide +kernel
theorem dX9_isAim_26 : decode cX9_isAim 26 = .ok (.aload_n 0, 1) := by decide +kernel
theorem dX9_isAim_27 : decode cX9_isAim 27 = .ok (.getfield 31, 3) := by decide +kernel
theorem dX9_isAim_30 : decode cX9_isAim 30 = .ok (.iload_n 3, 1) := by decide +kernel
theorem dX9_isAim_31 : decode cX9_isAim 31 = .ok (.iaload, 1) := by decide +kernel
theorem dX9_isAim_32 : decode cX9_isAim 32 = .ok (.if_icmp .eq 5, 3) := by decide +kernel
theorem dX9_isAim_35 : decode cX9_isAim 35 = .ok (.iconst 0, 1) := by decide +kernel
theorem dX9_isAim_36 : decode cX9_isAim 36 = .ok (.ireturn, 1) := by decide +kernel
theorem dX9_isAim_37 : decode cX9_isAim 37 = .ok (.iinc 3 1, 3) := by decide +kernel
theorem dX9_isAim_40 : decode cX9_isAim 40 = .ok (.goto (-38), 3) := by decide +kernel
theorem dX9_isAim_43 : decode cX9_isAim 43 = .ok (.iconst 1, 1) := by decide +kernel
theorem dX9_isAim_44 : decode cX9_isAim 44 = .ok (.ireturn, 1) := by decide +kernel
theorem dX9_adds_0 : decode cX9_adds 0 = .ok (.aload_n 0, 1) := by decide +kernel
theorem dX9_adds_1 : decode cX9_adds 1 = .ok (.getfield 69, 3) := by decide +kernel
theorem dX9_adds_4 : decode cX9_adds 4 = .ok (.iload_n 1, 1) := by decide +kernel
theorem dX9_adds_5 : decode cX9_adds 5 = .ok (.dup2, 1) := by decide +kernel
theorem dX9_adds_6 : decode cX9_adds 6 = .ok (.iaload, 1) := by decide +kernel
theorem dX9_adds_7 : decode cX9_adds 7 = .ok (.iload_n 2, 1) := by decide +kernel
theorem dX9_adds_8 : decode cX9_adds 8 = .ok (.iadd, 1) := by decide +kernel
theorem dX9_adds_9 : decode cX9_adds 9 = .ok (.iastore, 1) := by decide +kernel
theorem dX9_adds_10 : decode cX9_adds 10 = .ok (.iconst 0, 1) := by decide +kernel
theorem dX9_adds_11 : decode cX9_adds 11 = .ok (.istore_n 3, 1) := by decide +kernel
theorem dX9_adds_12 : decode cX9_adds 12 = .ok (.iload_n 3, 1) := by decide +kernel
theorem dX9_adds_13 : decode cX9_adds 13 = .ok (.bipush 10, 2) := by decide +kernel
theorem dX9_adds_15 : decode cX9_adds 15 = .ok (.if_icmp .ge 27, 3) := by decide +kernel
theorem dX9_adds_18 : decode cX9_adds 18 = .ok (.aload_n 0, 1) := by decide +kernel
theorem dX9_adds_19 : decode cX9_adds 19 = .ok (.getfield 75, 3) := by decide +kernel
theorem dX9_adds_22 : decode cX9_adds 22 = .ok (.iload_n 3, 1) := by decide +kernel
theorem dX9_adds_23 : decode cX9_adds 23 = .ok (.dup2, 1) := by decide +kernel
theorem dX9_adds_24 : decode cX9_adds 24 = .ok (.iaload, 1) := by decide +kernel
theorem dX9_adds_25 : decode cX9_adds 25 = .ok (.iload_n 2, 1) := by decide +kernel
theorem dX9_adds_26 : decode cX9_adds 26 = .ok (.aload_n 0, 1) := by decide +kernel
theorem dX9_adds_27 : decode cX9_adds 27 = .ok (.iconst 0, 1) := by decide +kernel
theorem dX9_adds_28 : decode cX9_adds 28 = .ok (.iload_n 1, 1) := by decide +kernel
theorem dX9_adds_29 : decode cX9_adds 29 = .ok (.iload_n 3, 1) := by decide +kernel
theorem dX9_adds_30 : decode cX9_adds 30 = .ok (.invokevirtual 279, 3) := by decide +kernel
theorem dX9_adds_33 : decode cX9_adds 33 = .ok (.imul, 1) := by decide +kernel
theorem dX9_adds_34 : decode cX9_adds 34 = .ok (.iadd, 1) := by decide +kernel
theorem dX9_adds_35 : decode cX9_adds 35 = .ok (.iastore, 1) := by decide +kernel
theorem dX9_adds_36 : decode cX9_adds 36 = .ok (.iinc 3 1, 3) := by decide +kernel
theorem dX9_adds_39 : decode cX9_adds 39 = .ok (.goto (-27), 3) := by decide +kernel
theorem dX9_adds_42 : decode cX9_adds 42 = .ok (.return_, 1) := by decide +kernel
theorem dX9_layCounts_0 : decode cX9_layCounts 0 = .ok (.aload_n 0, 1) := by decide +kernel
theorem dX9_layCounts_1 : decode cX9_layCounts 1 = .ok (.getfield 257, 3) := by decide +kernel
theorem dX9_layCounts_4 : decode cX9_layCounts 4 = .ok (.ifCond .eq 4, 3) := by decide +kernel
theorem dX9_layCounts_7 : decode cX9_layCounts 7 = .ok (.return_, 1) := by decide +kernel
theorem dX9_layCounts_8 : decode cX9_layCounts 8 = .ok (.aload_n 0, 1) := by decide +kernel
theorem dX9_layCounts_9 : decode cX9_layCounts 9 = .ok (.iconst 1, 1) := by decide +kernel
theorem dX9_layCounts_10 : decode cX9_layCounts 10 = .ok (.putfield 257, 3) := by decide +kernel
theorem dX9_layCounts_13 : decode cX9_layCounts 13 = .ok (.aload_n 0, 1) := by decide +kernel
theorem dX9_layCounts_14 : decode cX9_layCounts 14 = .ok (.bipush 13, 2) := by decide +kernel
theorem dX9_layCounts_16 : decode cX9_layCounts 16 = .ok (.putfield 354, 3) := by decide +kernel
theorem dX9_layCounts_19 : decode cX9_layCounts 19 = .ok (.iconst 0, 1) := by decide +kernel
theorem dX9_layCounts_20 : decode cX9_layCounts 20 = .ok (.istore_n 1, 1) := by decide +kernel
theorem dX9_layCounts_21 : decode cX9_layCounts 21 = .ok (.iload_n 1, 1) := by decide +kernel
theorem dX9_layCounts_22 : decode cX9_layCounts 22 = .ok (.bipush 10, 2) := by decide +kernel
theorem dX9_layCounts_24 : decode cX9_layCounts 24 = .ok (.if_icmp .ge 21, 3) := by decide +kernel
theorem dX9_layCounts_27 : decode cX9_layCounts 27 = .ok (.aload_n 0, 1) := by decide +kernel
theorem dX9_layCounts_28 : decode cX9_layCounts 28 = .ok (.getfield 75, 3) := by decide +kernel
theorem dX9_layCounts_31 : decode cX9_layCounts 31 = .ok (.iload_n 1, 1) := by decide +kernel
theorem dX9_layCounts_32 : decode cX9_layCounts 32 = .ok (.aload_n 0, 1) := by decide +kernel
theorem dX9_layCounts_33 : decode cX9_layCounts 33 = .ok (.getfield 16, 3) := by decide +kernel
theorem dX9_layCounts_36 : decode cX9_layCounts 36 = .ok (.iload_n 1, 1) := by decide +kernel
theorem dX9_layCounts_37 : decode cX9_layCounts 37 = .ok (.iaload, 1) := by decide +kernel
theorem dX9_layCounts_38 : decode cX9_layCounts 38 = .ok (.iastore, 1) := by decide +kernel
theorem dX9_layCounts_39 : decode cX9_layCounts 39 = .ok (.iinc 1 1, 3) := by decide +kernel
theorem dX9_layCounts_42 : decode cX9_layCounts 42 = .ok (.goto (-21), 3) := by decide +kernel
theorem dX9_layCounts_45 : decode cX9_layCounts 45 = .ok (.iconst 0, 1) := by decide +kernel
theorem dX9_layCounts_46 : decode cX9_layCounts 46 = .ok (.istore_n 1, 1) := by decide +kernel
theorem dX9_layCounts_47 : decode cX9_layCounts 47 = .ok (.iload_n 1, 1) := by decide +kernel
theorem dX9_layCounts_48 : decode cX9_layCounts 48 = .ok (.bipush 8, 2) := by decide +kernel
theorem dX9_layCounts_50 : decode cX9_layCounts 50 = .ok (.if_icmp .ge 16, 3) := by decide +kernel
theorem dX9_layCounts_53 : decode cX9_layCounts 53 = .ok (.aload_n 0, 1) := by decide +kernel
theorem dX9_layCounts_54 : decode cX9_layCounts 54 = .ok (.getfield 69, 3) := by decide +kernel
theorem dX9_layCounts_57 : decode cX9_layCounts 57 = .ok (.iload_n 1, 1) := by decide +kernel
theorem dX9_layCounts_58 : decode cX9_layCounts 58 = .ok (.iconst 0, 1) := by decide +kernel
theorem dX9_layCounts_59 : decode cX9_layCounts 59 = .ok (.iastore, 1) := by decide +kernel
theorem dX9_layCounts_60 : decode cX9_layCounts 60 = .ok (.iinc 1 1, 3) := by decide +kernel
theorem dX9_layCounts_63 : decode cX9_layCounts 63 = .ok (.goto (-16), 3) := by decide +kernel
theorem dX9_layCounts_66 : decode cX9_layCounts 66 = .ok (.iconst 0, 1) := by decide +kernel
theorem dX9_layCounts_67 : decode cX9_layCounts 67 = .ok (.istore_n 1, 1) := by decide +kernel
theorem dX9_layCounts_68 : decode cX9_layCounts 68 = .ok (.iconst 1, 1) := by decide +kernel
theorem dX9_layCounts_69 : decode cX9_layCounts 69 = .ok (.istore_n 2, 1) := by decide +kernel
theorem dX9_layCounts_70 : decode cX9_layCounts 70 = .ok (.iload_n 2, 1) := by decide +kernel
theorem dX9_layCounts_71 : decode cX9_layCounts 71 = .ok (.ifCond .eq 137, 3) := by decide +kernel
theorem dX9_layCounts_74 : decode cX9_layCounts 74 = .ok (.iload_n 1, 1) := by decide +kernel
theorem dX9_layCounts_75 : decode cX9_layCounts 75 = .ok (.aload_n 0, 1) := by decide +kernel
theorem dX9_layCounts_76 : decode cX9_layCounts 76 = .ok (.getfield 354, 3) := by decide +kernel
theorem dX9_layCounts_79 : decode cX9_layCounts 79 = .ok (.if_icmp .ge 46, 3) := by decide +kernel
theorem dX9_layCounts_82 : decode cX9_layCounts 82 = .ok (.aload_n 0, 1) := by decide +kernel
theorem dX9_layCounts_83 : decode cX9_layCounts 83 = .ok (.aload_n 0, 1) := by decide +kernel
theorem dX9_layCounts_84 : decode cX9_layCounts 84 = .ok (.getfield 75, 3) := by decide +kernel
theorem dX9_layCounts_87 : decode cX9_layCounts 87 = .ok (.iconst 0, 1) := by decide +kernel
theorem dX9_layCounts_88 : decode cX9_layCounts 88 = .ok (.invokevirtual 357, 3) := by decide +kernel
theorem dX9_layCounts_91 : decode cX9_layCounts 91 = .ok (.ifCond .eq 34, 3) := by decide +kernel
theorem dX9_layCounts_94 : decode cX9_layCounts 94 = .ok (.aload_n 0, 1) := by decide +kernel
theorem dX9_layCounts_95 : decode cX9_layCounts 95 = .ok (.iload_n 1, 1) := by decide +kernel
theorem dX9_layCounts_96 : decode cX9_layCounts 96 = .ok (.putfield 354, 3) := by decide +kernel
theorem dX9_layCounts_99 : decode cX9_layCounts 99 = .ok (.iconst 0, 1) := by decide +kernel
theorem dX9_layCounts_100 : decode cX9_layCounts 100 = .ok (.istore_n 3, 1) := by decide +kernel
theorem dX9_layCounts_101 : decode cX9_layCounts 101 = .ok (.iload_n 3, 1) := by decide +kernel
theorem dX9_layCounts_102 : decode cX9_layCounts 102 = .ok (.bipush 8, 2) := by decide +kernel
theorem dX9_layCounts_104 : decode cX9_layCounts 104 = .ok (.if_icmp .ge 21, 3) := by decide +kernel
theorem dX9_layCounts_107 : decode cX9_layCounts 107 = .ok (.aload_n 0, 1) := by decide +kernel
theorem dX9_layCounts_108 : decode cX9_layCounts 108 = .ok (.getfield 72, 3) := by decide +kernel
theorem dX9_layCounts_111 : decode cX9_layCounts 111 = .ok (.iload_n 3, 1) := by decide +kernel
theorem dX9_layCounts_112 : decode cX9_layCounts 112 = .ok (.aload_n 0, 1) := by decide +kernel
theorem dX9_layCounts_113 : decode cX9_layCounts 113 = .ok (.getfield 69, 3) := by decide +kernel
theorem dX9_layCounts_116 : decode cX9_layCounts 116 = .ok (.iload_n 3, 1) := by decide +kernel
theorem dX9_layCounts_117 : decode cX9_layCounts 117 = .ok (.iaload, 1) := by decide +kernel
theorem dX9_layCounts_118 : decode cX9_layCounts 118 = .ok (.iastore, 1) := by decide +kernel
theorem dX9_layCounts_119 : decode cX9_layCounts 119 = .ok (.iinc 3 1, 3) := by decide +kernel
theorem dX9_layCounts_122 : decode cX9_layCounts 122 = .ok (.goto (-21), 3) := by decide +kernel
theorem dX9_layCounts_125 : decode cX9_layCounts 125 = .ok (.iconst 0, 1) := by decide +kernel
theorem dX9_layCounts_126 : decode cX9_layCounts 126 = .ok (.istore_n 2, 1) := by decide +kernel
theorem dX9_layCounts_127 : decode cX9_layCounts 127 = .ok (.bipush 7, 2) := by decide +kernel
theorem dX9_layCounts_129 : decode cX9_layCounts 129 = .ok (.istore_n 3, 1) := by decide +kernel
theorem dX9_layCounts_130 : decode cX9_layCounts 130 = .ok (.iload_n 3, 1) := by decide +kernel
theorem dX9_layCounts_131 : decode cX9_layCounts 131 = .ok (.ifCond .lt 74, 3) := by decide +kernel
theorem dX9_layCounts_134 : decode cX9_layCounts 134 = .ok (.iload_n 2, 1) := by decide +kernel
theorem dX9_layCounts_135 : decode cX9_layCounts 135 = .ok (.ifCond .ne 70, 3) := by decide +kernel
theorem dX9_layCounts_138 : decode cX9_layCounts 138 = .ok (.aload_n 0, 1) := by decide +kernel
theorem dX9_layCounts_139 : decode cX9_layCounts 139 = .ok (.getfield 22, 3) := by decide +kernel
theorem dX9_layCounts_142 : decode cX9_layCounts 142 = .ok (.iconst 0, 1) := by decide +kernel
theorem dX9_layCounts_143 : decode cX9_layCounts 143 = .ok (.iaload, 1) := by decide +kernel
theorem dX9_layCounts_144 : decode cX9_layCounts 144 = .ok (.iload_n 3, 1) := by decide +kernel
theorem dX9_layCounts_145 : decode cX9_layCounts 145 = .ok (.invokestatic 140, 3) := by decide +kernel
theorem dX9_layCounts_148 : decode cX9_layCounts 148 = .ok (.ifCond .ne 6, 3) := by decide +kernel
theorem dX9_layCounts_151 : decode cX9_layCounts 151 = .ok (.goto 48, 3) := by decide +kernel
theorem dX9_layCounts_154 : decode cX9_layCounts 154 = .ok (.iload_n 1, 1) := by decide +kernel
theorem dX9_layCounts_155 : decode cX9_layCounts 155 = .ok (.aload_n 0, 1) := by decide +kernel
theorem dX9_layCounts_156 : decode cX9_layCounts 156 = .ok (.getfield 354, 3) := by decide +kernel
theorem dX9_layCounts_159 : decode cX9_layCounts 159 = .ok (.iconst 1, 1) := by decide +kernel
theorem dX9_layCounts_160 : decode cX9_layCounts 160 = .ok (.isub, 1) := by decide +kernel
theorem dX9_layCounts_161 : decode cX9_layCounts 161 = .ok (.if_icmp .ge 17, 3) := by decide +kernel
theorem dX9_layCounts_164 : decode cX9_layCounts 164 = .ok (.aload_n 0, 1) := by decide +kernel
theorem dX9_layCounts_165 : decode cX9_layCounts 165 = .ok (.iload_n 3, 1) := by decide +kernel
theorem dX9_layCounts_166 : decode cX9_layCounts 166 = .ok (.iconst 1, 1) := by decide +kernel
theorem dX9_layCounts_167 : decode cX9_layCounts 167 = .ok (.invokevirtual 361, 3) := by decide +kernel
theorem dX9_layCounts_170 : decode cX9_layCounts 170 = .ok (.iinc 1 1, 3) := by decide +kernel
theorem dX9_layCounts_173 : decode cX9_layCounts 173 = .ok (.iconst 1, 1) := by decide +kernel
theorem dX9_layCounts_174 : decode cX9_layCounts 174 = .ok (.istore_n 2, 1) := by decide +kernel
theorem dX9_layCounts_175 : decode cX9_layCounts 175 = .ok (.goto 24, 3) := by decide +kernel
theorem dX9_layCounts_178 : decode cX9_layCounts 178 = .ok (.iload_n 1, 1) := by decide +kernel
theorem dX9_layCounts_179 : decode cX9_layCounts 179 = .ok (.aload_n 0, 1) := by decide +kernel
theorem dX9_layCounts_180 : decode cX9_layCounts 180 = .ok (.getfield 69, 3) := by decide +kernel
theorem dX9_layCounts_183 : decode cX9_layCounts 183 = .ok (.iload_n 3, 1) := by decide +kernel
theorem dX9_layCounts_184 : decode cX9_layCounts 184 = .ok (.iaload, 1) := by decide +kernel
theorem dX9_layCounts_185 : decode cX9_layCounts 185 = .ok (.isub, 1) := by decide +kernel
theorem dX9_layCounts_186 : decode cX9_layCounts 186 = .ok (.istore_n 1, 1) := by decide +kernel
theorem dX9_layCounts_187 : decode cX9_layCounts 187 = .ok (.aload_n 0, 1) := by decide +kernel
theorem dX9_layCounts_188 : decode cX9_layCounts 188 = .ok (.iload_n 3, 1) := by decide +kernel
theorem dX9_layCounts_189 : decode cX9_layCounts 189 = .ok (.aload_n 0, 1) := by decide +kernel
theorem dX9_layCounts_190 : decode cX9_layCounts 190 = .ok (.getfield 69, 3) := by decide +kernel
theorem dX9_layCounts_193 : decode cX9_layCounts 193 = .ok (.iload_n 3, 1) := by decide +kernel
theorem dX9_layCounts_194 : decode cX9_layCounts 194 = .ok (.iaload, 1) := by decide +kernel
theorem dX9_layCounts_195 : decode cX9_layCounts 195 = .ok (.ineg, 1) := by decide +kernel
theorem dX9_layCounts_196 : decode cX9_layCounts 196 = .ok (.invokevirtual 361, 3) := by decide +kernel
theorem dX9_layCounts_199 : decode cX9_layCounts 199 = .ok (.iinc 3 (-1), 3) := by decide +kernel
theorem dX9_layCounts_202 : decode cX9_layCounts 202 = .ok (.goto (-72), 3) := by decide +kernel
theorem dX9_layCounts_205 : decode cX9_layCounts 205 = .ok (.goto (-135), 3) := by decide +kernel
theorem dX9_layCounts_208 : decode cX9_layCounts 208 = .ok (.aload_n 0, 1) := by decide +kernel
theorem dX9_layCounts_209 : decode cX9_layCounts 209 = .ok (.getfield 354, 3) := by decide +kernel
theorem dX9_layCounts_212 : decode cX9_layCounts 212 = .ok (.bipush 12, 2) := by decide +kernel
theorem dX9_layCounts_214 : decode cX9_layCounts 214 = .ok (.if_icmp .gt 7, 3) := by decide +kernel
theorem dX9_layCounts_217 : decode cX9_layCounts 217 = .ok (.aload_n 0, 1) := by decide +kernel
theorem dX9_layCounts_218 : decode cX9_layCounts 218 = .ok (.invokevirtual 364, 3) := by decide +kernel
theorem dX9_layCounts_221 : decode cX9_layCounts 221 = .ok (.return_, 1) := by decide +kernel
theorem dX9_layShapes_0 : decode cX9_layShapes 0 = .ok (.aload_n 0, 1) := by decide +kernel
theorem dX9_layShapes_1 : decode cX9_layShapes 1 = .ok (.iconst 1, 1) := by decide +kernel
theorem dX9_layShapes_2 : decode cX9_layShapes 2 = .ok (.putfield 367, 3) := by decide +kernel
theorem dX9_layShapes_5 : decode cX9_layShapes 5 = .ok (.iconst 0, 1) := by decide +kernel
theorem dX9_layShapes_6 : decode cX9_layShapes 6 = .ok (.istore_n 1, 1) := by decide +kernel
theorem dX9_layShapes_7 : decode cX9_layShapes 7 = .ok (.iload_n 1, 1) := by decide +kernel
theorem dX9_layShapes_8 : decode cX9_layShapes 8 = .ok (.bipush 8, 2) := by decide +kernel
theorem dX9_layShapes_10 : decode cX9_layShapes 10 = .ok (.if_icmp .ge 36, 3) := by decide +kernel
theorem dX9_layShapes_13 : decode cX9_layShapes 13 = .ok (.aload_n 0, 1) := by decide +kernel
theorem dX9_layShapes_14 : decode cX9_layShapes 14 = .ok (.getfield 78, 3) := by decide +kernel
theorem dX9_layShapes_17 : decode cX9_layShapes 17 = .ok (.iload_n 1, 1) := by decide +kernel
theorem dX9_layShapes_18 : decode cX9_layShapes 18 = .ok (.aload_n 0, 1) := by decide +kernel
theorem dX9_layShapes_19 : decode cX9_layShapes 19 = .ok (.getfield 367, 3) := by decide +kernel
theorem dX9_layShapes_22 : decode cX9_layShapes 22 = .ok (.iastore, 1) := by decide +kernel
theorem dX9_layShapes_23 : decode cX9_layShapes 23 = .ok (.aload_n 0, 1) := by decide +kernel
theorem dX9_layShapes_24 : decode cX9_layShapes 24 = .ok (.dup, 1) := by decide +kernel
theorem dX9_layShapes_25 : decode cX9_layShapes 25 = .ok (.getfield 367, 3) := by decide +kernel
theorem dX9_layShapes_28 : decode cX9_layShapes 28 = .ok (.aload_n 0, 1) := by decide +kernel
theorem dX9_layShapes_29 : decode cX9_layShapes 29 = .ok (.getfield 72, 3) := by decide +kernel
theorem dX9_layShapes_32 : decode cX9_layShapes 32 = .ok (.iload_n 1, 1) := by decide +kernel
theorem dX9_layShapes_33 : decode cX9_layShapes 33 = .ok (.iaload, 1) := by decide +kernel
theorem dX9_layShapes_34 : decode cX9_layShapes 34 = .ok (.iconst 1, 1) := by decide +kernel
theorem dX9_layShapes_35 : decode cX9_layShapes 35 = .ok (.iadd, 1) := by decide +kernel
theorem dX9_layShapes_36 : decode cX9_layShapes 36 = .ok (.imul, 1) := by decide +kernel
theorem dX9_layShapes_37 : decode cX9_layShapes 37 = .ok (.putfield 367, 3) := by decide +kernel
theorem dX9_layShapes_40 : decode cX9_layShapes 40 = .ok (.iinc 1 1, 3) := by decide +kernel
theorem dX9_layShapes_43 : decode cX9_layShapes 43 = .ok (.goto (-36), 3) := by decide +kernel
theorem dX9_layShapes_46 : decode cX9_layShapes 46 = .ok (.aload_n 0, 1) := by decide +kernel
theorem dX9_layShapes_47 : decode cX9_layShapes 47 = .ok (.getfield 367, 3) := by decide +kernel
theorem dX9_layShapes_50 : decode cX9_layShapes 50 = .ok (.iconst 1, 1) := by decide +kernel
theorem dX9_layShapes_51 : decode cX9_layShapes 51 = .ok (.isub, 1) := by decide +kernel
theorem dX9_layShapes_52 : decode cX9_layShapes 52 = .ok (.istore_n 1, 1) := by decide +kernel
theorem dX9_layShapes_53 : decode cX9_layShapes 53 = .ok (.iload_n 1, 1) := by decide +kernel
theorem dX9_layShapes_54 : decode cX9_layShapes 54 = .ok (.ifCond .lt 64, 3) := by decide +kernel
theorem dX9_layShapes_57 : decode cX9_layShapes 57 = .ok (.aload_n 0, 1) := by decide +kernel
theorem dX9_layShapes_58 : decode cX9_layShapes 58 = .ok (.getfield 81, 3) := by decide +kernel
theorem dX9_layShapes_61 : decode cX9_layShapes 61 = .ok (.iload_n 1, 1) := by decide +kernel
theorem dX9_layShapes_62 : decode cX9_layShapes 62 = .ok (.iload_n 1, 1) := by decide +kernel
theorem dX9_layShapes_63 : decode cX9_layShapes 63 = .ok (.aload_n 0, 1) := by decide +kernel
theorem dX9_layShapes_64 : decode cX9_layShapes 64 = .ok (.getfield 367, 3) := by decide +kernel
theorem dX9_layShapes_67 : decode cX9_layShapes 67 = .ok (.iconst 1, 1) := by decide +kernel
theorem dX9_layShapes_68 : decode cX9_layShapes 68 = .ok (.isub, 1) := by decide +kernel
theorem dX9_layShapes_69 : decode cX9_layShapes 69 = .ok (.if_icmp .ne 7, 3) := by decide +kernel
theorem dX9_layShapes_72 : decode cX9_layShapes 72 = .ok (.iconst 1, 1) := by decide +kernel
theorem dX9_layShapes_73 : decode cX9_layShapes 73 = .ok (.goto 4, 3) := by decide +kernel
theorem dX9_layShapes_76 : decode cX9_layShapes 76 = .ok (.iconst 0, 1) := by decide +kernel
theorem dX9_layShapes_77 : decode cX9_layShapes 77 = .ok (.bastore, 1) := by decide +kernel
theorem dX9_layShapes_78 : decode cX9_layShapes 78 = .ok (.aload_n 0, 1) := by decide +kernel
theorem dX9_layShapes_79 : decode cX9_layShapes 79 = .ok (.iload_n 1, 1) := by decide +kernel
theorem dX9_layShapes_80 : decode cX9_layShapes 80 = .ok (.invokevirtual 370, 3) := by decide +kernel
theorem dX9_layShapes_83 : decode cX9_layShapes 83 = .ok (.iconst 0, 1) := by decide +kernel
theorem dX9_layShapes_84 : decode cX9_layShapes 84 = .ok (.istore_n 2, 1) := by decide +kernel
theorem dX9_layShapes_85 : decode cX9_layShapes 85 = .ok (.iload_n 2, 1) := by decide +kernel
theorem dX9_layShapes_86 : decode cX9_layShapes 86 = .ok (.bipush 8, 2) := by decide +kernel
theorem dX9_layShapes_88 : decode cX9_layShapes 88 = .ok (.if_icmp .ge 24, 3) := by decide +kernel
theorem dX9_layShapes_91 : decode cX9_layShapes 91 = .ok (.aload_n 0, 1) := by decide +kernel
theorem dX9_layShapes_92 : decode cX9_layShapes 92 = .ok (.getfield 81, 3) := by decide +kernel
theorem dX9_layShapes_95 : decode cX9_layShapes 95 = .ok (.iload_n 1, 1) := by decide +kernel
theorem dX9_layShapes_96 : decode cX9_layShapes 96 = .ok (.dup2, 1) := by decide +kernel
theorem dX9_layShapes_97 : decode cX9_layShapes 97 = .ok (.baload, 1) := by decide +kernel
theorem dX9_layShapes_98 : decode cX9_layShapes 98 = .ok (.aload_n 0, 1) := by decide +kernel
theorem dX9_layShapes_99 : decode cX9_layShapes 99 = .ok (.iload_n 1, 1) := by decide +kernel
theorem dX9_layShapes_100 : decode cX9_layShapes 100 = .ok (.iload_n 2, 1) := by decide +kernel
theorem dX9_layShapes_101 : decode cX9_layShapes 101 = .ok (.invokevirtual 373, 3) := by decide +kernel
theorem dX9_layShapes_104 : decode cX9_layShapes 104 = .ok (.ior, 1) := by decide +kernel
theorem dX9_layShapes_105 : decode cX9_layShapes 105 = .ok (.bastore, 1) := by decide +kernel
theorem dX9_layShapes_106 : decode cX9_layShapes 106 = .ok (.iinc 2 1, 3) := by decide +kernel
theorem dX9_layShapes_109 : decode cX9_layShapes 109 = .ok (.goto (-24), 3) := by decide +kernel
theorem dX9_layShapes_112 : decode cX9_layShapes 112 = .ok (.iinc 1 (-1), 3) := by decide +kernel
theorem dX9_layShapes_115 : decode cX9_layShapes 115 = .ok (.goto (-62), 3) := by decide +kernel
theorem dX9_layShapes_118 : decode cX9_layShapes 118 = .ok (.return_, 1) := by decide +kernel
theorem dX9_layPart_0 : decode cX9_layPart 0 = .ok (.iconst 0, 1) := by decide +kernel
theorem dX9_layPart_1 : decode cX9_layPart 1 = .ok (.istore_n 2, 1) := by decide +kernel
theorem dX9_layPart_2 : decode cX9_layPart 2 = .ok (.iload_n 2, 1) := by decide +kernel
theorem dX9_layPart_3 : decode cX9_layPart 3 = .ok (.bipush 10, 2) := by decide +kernel
theorem dX9_layPart_5 : decode cX9_layPart 5 = .ok (.if_icmp .ge 69, 3) := by decide +kernel
theorem dX9_layPart_8 : decode cX9_layPart 8 = .ok (.aload_n 0, 1) := by decide +kernel
theorem dX9_layPart_9 : decode cX9_layPart 9 = .ok (.getfield 75, 3) := by decide +kernel
theorem dX9_layPart_12 : decode cX9_layPart 12 = .ok (.iload_n 2, 1) := by decide +kernel
theorem dX9_layPart_13 : decode cX9_layPart 13 = .ok (.aload_n 0, 1) := by decide +kernel
theorem dX9_layPart_14 : decode cX9_layPart 14 = .ok (.getfield 16, 3) := by decide +kernel
theorem dX9_layPart_17 : decode cX9_layPart 17 = .ok (.iload_n 2, 1) := by decide +kernel
theorem dX9_layPart_18 : decode cX9_layPart 18 = .ok (.iaload, 1) := by decide +kernel
theorem dX9_layPart_19 : decode cX9_layPart 19 = .ok (.iastore, 1) := by decide +kernel
theorem dX9_layPart_20 : decode cX9_layPart 20 = .ok (.iconst 0, 1) := by decide +kernel
theorem dX9_layPart_21 : decode cX9_layPart 21 = .ok (.istore_n 3, 1) := by decide +kernel
theorem dX9_layPart_22 : decode cX9_layPart 22 = .ok (.iload_n 3, 1) := by decide +kernel
theorem dX9_layPart_23 : decode cX9_layPart 23 = .ok (.bipush 8, 2) := by decide +kernel
theorem dX9_layPart_25 : decode cX9_layPart 25 = .ok (.if_icmp .ge 43, 3) := by decide +kernel
theorem dX9_layPart_28 : decode cX9_layPart 28 = .ok (.aload_n 0, 1) := by decide +kernel
theorem dX9_layPart_29 : decode cX9_layPart 29 = .ok (.getfield 75, 3) := by decide +kernel
theorem dX9_layPart_32 : decode cX9_layPart 32 = .ok (.iload_n 2, 1) := by decide +kernel
theorem dX9_layPart_33 : decode cX9_layPart 33 = .ok (.dup2, 1) := by decide +kernel
theorem dX9_layPart_34 : decode cX9_layPart 34 = .ok (.iaload, 1) := by decide +kernel
theorem dX9_layPart_35 : decode cX9_layPart 35 = .ok (.iload_n 1, 1) := by decide +kernel
theorem dX9_layPart_36 : decode cX9_layPart 36 = .ok (.aload_n 0, 1) := by decide +kernel
theorem dX9_layPart_37 : decode cX9_layPart 37 = .ok (.getfield 78, 3) := by decide +kernel
theorem dX9_layPart_40 : decode cX9_layPart 40 = .ok (.iload_n 3, 1) := by decide +kernel
theorem dX9_layPart_41 : decode cX9_layPart 41 = .ok (.iaload, 1) := by decide +kernel
theorem dX9_layPart_42 : decode cX9_layPart 42 = .ok (.idiv, 1) := by decide +kernel
theorem dX9_layPart_43 : decode cX9_layPart 43 = .ok (.aload_n 0, 1) := by decide +kernel
theorem dX9_layPart_44 : decode cX9_layPart 44 = .ok (.getfield 72, 3) := by decide +kernel
theorem dX9_layPart_47 : decode cX9_layPart 47 = .ok (.iload_n 3, 1) := by decide +kernel
theorem dX9_layPart_48 : decode cX9_layPart 48 = .ok (.iaload, 1) := by decide +kernel
theorem dX9_layPart_49 : decode cX9_layPart 49 = .ok (.iconst 1, 1) := by decide +kernel
theorem dX9_layPart_50 : decode cX9_layPart 50 = .ok (.iadd, 1) := by decide +kernel
theorem dX9_layPart_51 : decode cX9_layPart 51 = .ok (.irem, 1) := by decide +kernel
theorem dX9_layPart_52 : decode cX9_layPart 52 = .ok (.aload_n 0, 1) := by decide +kernel
theorem dX9_layPart_53 : decode cX9_layPart 53 = .ok (.iconst 0, 1) := by decide +kernel
theorem dX9_layPart_54 : decode cX9_layPart 54 = .ok (.iload_n 3, 1) := by decide +kernel
theorem dX9_layPart_55 : decode cX9_layPart 55 = .ok (.iload_n 2, 1) := by decide +kernel
theorem dX9_layPart_56 : decode cX9_layPart 56 = .ok (.invokevirtual 279, 3) := by decide +kernel
theorem dX9_layPart_59 : decode cX9_layPart 59 = .ok (.imul, 1) := by decide +kernel
theorem dX9_layPart_60 : decode cX9_layPart 60 = .ok (.iadd, 1) := by decide +kernel
theorem dX9_layPart_61 : decode cX9_layPart 61 = .ok (.iastore, 1) := by decide +kernel
theorem dX9_layPart_62 : decode cX9_layPart 62 = .ok (.iinc 3 1, 3) := by decide +kernel
theorem dX9_layPart_65 : decode cX9_layPart 65 = .ok (.goto (-43), 3) := by decide +kernel
theorem dX9_layPart_68 : decode cX9_layPart 68 = .ok (.iinc 2 1, 3) := by decide +kernel
theorem dX9_layPart_71 : decode cX9_layPart 71 = .ok (.goto (-69), 3) := by decide +kernel
theorem dX9_layPart_74 : decode cX9_layPart 74 = .ok (.return_, 1) := by decide +kernel
theorem dX9_goesOnBy_0 : decode cX9_goesOnBy 0 = .ok (.iload_n 1, 1) := by decide +kernel
theorem dX9_goesOnBy_1 : decode cX9_goesOnBy 1 = .ok (.aload_n 0, 1) := by decide +kernel
theorem dX9_goesOnBy_2 : decode cX9_goesOnBy 2 = .ok (.getfield 78, 3) := by decide +kernel
theorem dX9_goesOnBy_5 : decode cX9_goesOnBy 5 = .ok (.iload_n 2, 1) := by decide +kernel
theorem dX9_goesOnBy_6 : decode cX9_goesOnBy 6 = .ok (.iaload, 1) := by decide +kernel
theorem dX9_goesOnBy_7 : decode cX9_goesOnBy 7 = .ok (.idiv, 1) := by decide +kernel
theorem dX9_goesOnBy_8 : decode cX9_goesOnBy 8 = .ok (.aload_n 0, 1) := by decide +kernel
theorem dX9_goesOnBy_9 : decode cX9_goesOnBy 9 = .ok (.getfield 72, 3) := by decide +kernel
theorem dX9_goesOnBy_12 : decode cX9_goesOnBy 12 = .ok (.iload_n 2, 1) := by decide +kernel
theorem dX9_goesOnBy_13 : decode cX9_goesOnBy 13 = .ok (.iaload, 1) := by decide +kernel
theorem dX9_goesOnBy_14 : decode cX9_goesOnBy 14 = .ok (.iconst 1, 1) := by decide +kernel
theorem dX9_goesOnBy_15 : decode cX9_goesOnBy 15 = .ok (.iadd, 1) := by decide +kernel
theorem dX9_goesOnBy_16 : decode cX9_goesOnBy 16 = .ok (.irem, 1) := by decide +kernel
theorem dX9_goesOnBy_17 : decode cX9_goesOnBy 17 = .ok (.aload_n 0, 1) := by decide +kernel
theorem dX9_goesOnBy_18 : decode cX9_goesOnBy 18 = .ok (.getfield 72, 3) := by decide +kernel
theorem dX9_goesOnBy_21 : decode cX9_goesOnBy 21 = .ok (.iload_n 2, 1) := by decide +kernel
theorem dX9_goesOnBy_22 : decode cX9_goesOnBy 22 = .ok (.iaload, 1) := by decide +kernel
theorem dX9_goesOnBy_23 : decode cX9_goesOnBy 23 = .ok (.if_icmp .ge 37, 3) := by decide +kernel
theorem dX9_goesOnBy_26 : decode cX9_goesOnBy 26 = .ok (.aload_n 0, 1) := by decide +kernel
theorem dX9_goesOnBy_27 : decode cX9_goesOnBy 27 = .ok (.getfield 81, 3) := by decide +kernel
theorem dX9_goesOnBy_30 : decode cX9_goesOnBy 30 = .ok (.iload_n 1, 1) := by decide +kernel
theorem dX9_goesOnBy_31 : decode cX9_goesOnBy 31 = .ok (.aload_n 0, 1) := by decide +kernel
theorem dX9_goesOnBy_32 : decode cX9_goesOnBy 32 = .ok (.getfield 78, 3) := by decide +kernel
theorem dX9_goesOnBy_35 : decode cX9_goesOnBy 35 = .ok (.iload_n 2, 1) := by decide +kernel
theorem dX9_goesOnBy_36 : decode cX9_goesOnBy 36 = .ok (.iaload, 1) := by decide +kernel
theorem dX9_goesOnBy_37 : decode cX9_goesOnBy 37 = .ok (.iadd, 1) := by decide +kernel
theorem dX9_goesOnBy_38 : decode cX9_goesOnBy 38 = .ok (.baload, 1) := by decide +kernel
theorem dX9_goesOnBy_39 : decode cX9_goesOnBy 39 = .ok (.ifCond .eq 21, 3) := by decide +kernel
theorem dX9_goesOnBy_42 : decode cX9_goesOnBy 42 = .ok (.aload_n 0, 1) := by decide +kernel
theorem dX9_goesOnBy_43 : decode cX9_goesOnBy 43 = .ok (.iconst 0, 1) := by decide +kernel
theorem dX9_goesOnBy_44 : decode cX9_goesOnBy 44 = .ok (.iload_n 2, 1) := by decide +kernel
theorem dX9_goesOnBy_45 : decode cX9_goesOnBy 45 = .ok (.aload_n 0, 1) := by decide +kernel
theorem dX9_goesOnBy_46 : decode cX9_goesOnBy 46 = .ok (.getfield 75, 3) := by decide +kernel
theorem dX9_goesOnBy_49 : decode cX9_goesOnBy 49 = .ok (.iconst 0, 1) := by decide +kernel
theorem dX9_goesOnBy_50 : decode cX9_goesOnBy 50 = .ok (.invokevirtual 292, 3) := by decide +kernel
theorem dX9_goesOnBy_53 : decode cX9_goesOnBy 53 = .ok (.ifCond .eq 7, 3) := by decide +kernel
theorem dX9_goesOnBy_56 : decode cX9_goesOnBy 56 = .ok (.iconst 1, 1) := by decide +kernel
theorem dX9_goesOnBy_57 : decode cX9_goesOnBy 57 = .ok (.goto 4, 3) := by decide +kernel
theorem dX9_goesOnBy_60 : decode cX9_goesOnBy 60 = .ok (.iconst 0, 1) := by decide +kernel
theorem dX9_goesOnBy_61 : decode cX9_goesOnBy 61 = .ok (.ireturn, 1) := by decide +kernel
theorem dX9_counts_0 : decode cX9_counts 0 = .ok (.aload_n 0, 1) := by decide +kernel
theorem dX9_counts_1 : decode cX9_counts 1 = .ok (.iconst 0, 1) := by decide +kernel
theorem dX9_counts_2 : decode cX9_counts 2 = .ok (.putfield 133, 3) := by decide +kernel
theorem dX9_counts_5 : decode cX9_counts 5 = .ok (.aload_n 0, 1) := by decide +kernel
theorem dX9_counts_6 : decode cX9_counts 6 = .ok (.invokevirtual 376, 3) := by decide +kernel
theorem dX9_counts_9 : decode cX9_counts 9 = .ok (.aload_n 0, 1) := by decide +kernel
theorem dX9_counts_10 : decode cX9_counts 10 = .ok (.getfield 354, 3) := by decide +kernel
theorem dX9_counts_13 : decode cX9_counts 13 = .ok (.bipush 12, 2) := by decide +kernel
theorem dX9_counts_15 : decode cX9_counts 15 = .ok (.if_icmp .gt 16, 3) := by decide +kernel
theorem dX9_counts_18 : decode cX9_counts 18 = .ok (.iload_n 1, 1) := by decide +kernel
theorem dX9_counts_19 : decode cX9_counts 19 = .ok (.iconst (-1), 1) := by decide +kernel
theorem dX9_counts_20 : decode cX9_counts 20 = .ok (.if_icmp .eq 13, 3) := by decide +kernel
theorem dX9_counts_23 : decode cX9_counts 23 = .ok (.aload_n 0, 1) := by decide +kernel
theorem dX9_counts_24 : decode cX9_counts 24 = .ok (.iload_n 1, 1) := by decide +kernel
theorem dX9_counts_25 : decode cX9_counts 25 = .ok (.invokevirtual 272, 3) := by decide +kernel
theorem dX9_counts_28 : decode cX9_counts 28 = .ok (.ifCond .ne 5, 3) := by decide +kernel
theorem dX9_counts_31 : decode cX9_counts 31 = .ok (.iconst (-1), 1) := by decide +kernel
theorem dX9_counts_32 : decode cX9_counts 32 = .ok (.ireturn, 1) := by decide +kernel
theorem dX9_counts_33 : decode cX9_counts 33 = .ok (.iload_n 1, 1) := by decide +kernel
theorem dX9_counts_34 : decode cX9_counts 34 = .ok (.iconst (-1), 1) := by decide +kernel
theorem dX9_counts_35 : decode cX9_counts 35 = .ok (.if_icmp .ne 10, 3) := by decide +kernel
theorem dX9_counts_38 : decode cX9_counts 38 = .ok (.aload_n 0, 1) := by decide +kernel
theorem dX9_counts_39 : decode cX9_counts 39 = .ok (.getfield 354, 3) := by decide +kernel
theorem dX9_counts_42 : decode cX9_counts 42 = .ok (.goto 9, 3) := by decide +kernel
theorem dX9_counts_45 : decode cX9_counts 45 = .ok (.aload_n 0, 1) := by decide +kernel
theorem dX9_counts_46 : decode cX9_counts 46 = .ok (.getfield 72, 3) := by decide +kernel
theorem dX9_counts_49 : decode cX9_counts 49 = .ok (.iload_n 1, 1) := by decide +kernel
theorem dX9_counts_50 : decode cX9_counts 50 = .ok (.iaload, 1) := by decide +kernel
theorem dX9_counts_51 : decode cX9_counts 51 = .ok (.ireturn, 1) := by decide +kernel
theorem dX9_order_0 : decode cX9_order 0 = .ok (.aload_n 0, 1) := by decide +kernel
theorem dX9_order_1 : decode cX9_order 1 = .ok (.iconst 0, 1) := by decide +kernel
theorem dX9_order_2 : decode cX9_order 2 = .ok (.putfield 133, 3) := by decide +kernel
theorem dX9_order_5 : decode cX9_order 5 = .ok (.aload_n 0, 1) := by decide +kernel
theorem dX9_order_6 : decode cX9_order 6 = .ok (.invokevirtual 376, 3) := by decide +kernel
theorem dX9_order_9 : decode cX9_order 9 = .ok (.aload_n 0, 1) := by decide +kernel
theorem dX9_order_10 : decode cX9_order 10 = .ok (.getfield 354, 3) := by decide +kernel
theorem dX9_order_13 : decode cX9_order 13 = .ok (.bipush 12, 2) := by decide +kernel
theorem dX9_order_15 : decode cX9_order 15 = .ok (.if_icmp .le 5, 3) := by decide +kernel
theorem dX9_order_18 : decode cX9_order 18 = .ok (.iconst (-1), 1) := by decide +kernel
theorem dX9_order_19 : decode cX9_order 19 = .ok (.ireturn, 1) := by decide +kernel
theorem dX9_order_20 : decode cX9_order 20 = .ok (.aload_n 0, 1) := by decide +kernel
theorem dX9_order_21 : decode cX9_order 21 = .ok (.getfield 81, 3) := by decide +kernel
theorem dX9_order_24 : decode cX9_order 24 = .ok (.iconst 0, 1) := by decide +kernel
theorem dX9_order_25 : decode cX9_order 25 = .ok (.baload, 1) := by decide +kernel
theorem dX9_order_26 : decode cX9_order 26 = .ok (.ifCond .ne 6, 3) := by decide +kernel
theorem dX9_order_29 : decode cX9_order 29 = .ok (.bipush (-2), 2) := by decide +kernel
theorem dX9_order_31 : decode cX9_order 31 = .ok (.ireturn, 1) := by decide +kernel
theorem dX9_order_32 : decode cX9_order 32 = .ok (.iload_n 1, 1) := by decide +kernel
theorem dX9_order_33 : decode cX9_order 33 = .ok (.iconst 0, 1) := by decide +kernel
theorem dX9_order_34 : decode cX9_order 34 = .ok (.aload_n 0, 1) := by decide +kernel
theorem dX9_order_35 : decode cX9_order 35 = .ok (.getfield 354, 3) := by decide +kernel
theorem dX9_order_38 : decode cX9_order 38 = .ok (.iconst 1, 1) := by decide +kernel
theorem dX9_order_39 : decode cX9_order 39 = .ok (.isub, 1) := by decide +kernel
theorem dX9_order_40 : decode cX9_order 40 = .ok (.invokestatic 136, 3) := by decide +kernel
theorem dX9_order_43 : decode cX9_order 43 = .ok (.ifCond .ne 5, 3) := by decide +kernel
theorem dX9_order_46 : decode cX9_order 46 = .ok (.iconst (-1), 1) := by decide +kernel
theorem dX9_order_47 : decode cX9_order 47 = .ok (.ireturn, 1) := by decide +kernel
theorem dX9_order_48 : decode cX9_order 48 = .ok (.iconst 0, 1) := by decide +kernel
theorem dX9_order_49 : decode cX9_order 49 = .ok (.istore_n 2, 1) := by decide +kernel
theorem dX9_order_50 : decode cX9_order 50 = .ok (.iconst (-1), 1) := by decide +kernel
theorem dX9_order_51 : decode cX9_order 51 = .ok (.istore_n 3, 1) := by decide +kernel
theorem dX9_order_52 : decode cX9_order 52 = .ok (.iconst 0, 1) := by decide +kernel
theorem dX9_order_53 : decode cX9_order 53 = .ok (.istore 4, 2) := by decide +kernel
theorem dX9_order_55 : decode cX9_order 55 = .ok (.iload 4, 2) := by decide +kernel
theorem dX9_order_57 : decode cX9_order 57 = .ok (.iload_n 1, 1) := by decide +kernel
theorem dX9_order_58 : decode cX9_order 58 = .ok (.if_icmp .gt 40, 3) := by decide +kernel
theorem dX9_order_61 : decode cX9_order 61 = .ok (.aload_n 0, 1) := by decide +kernel
theorem dX9_order_62 : decode cX9_order 62 = .ok (.iload_n 2, 1) := by decide +kernel
theorem dX9_order_63 : decode cX9_order 63 = .ok (.invokevirtual 370, 3) := by decide +kernel
theorem dX9_order_66 : decode cX9_order 66 = .ok (.iconst 0, 1) := by decide +kernel
theorem dX9_order_67 : decode cX9_order 67 = .ok (.istore_n 3, 1) := by decide +kernel
theorem dX9_order_68 : decode cX9_order 68 = .ok (.aload_n 0, 1) := by decide +kernel
theorem dX9_order_69 : decode cX9_order 69 = .ok (.iload_n 2, 1) := by decide +kernel
theorem dX9_order_70 : decode cX9_order 70 = .ok (.iload_n 3, 1) := by decide +kernel
theorem dX9_order_71 : decode cX9_order 71 = .ok (.invokevirtual 373, 3) := by decide +kernel
theorem dX9_order_74 : decode cX9_order 74 = .ok (.ifCond .ne 9, 3) := by decide +kernel
theorem dX9_order_77 : decode cX9_order 77 = .ok (.iinc 3 1, 3) := by decide +kernel
theorem dX9_order_80 : decode cX9_order 80 = .ok (.goto (-12), 3) := by decide +kernel
theorem dX9_order_83 : decode cX9_order 83 = .ok (.iload_n 2, 1) := by decide +kernel
theorem dX9_order_84 : decode cX9_order 84 = .ok (.aload_n 0, 1) := by decide +kernel
theorem dX9_order_85 : decode cX9_order 85 = .ok (.getfield 78, 3) := by decide +kernel
theorem dX9_order_88 : decode cX9_order 88 = .ok (.iload_n 3, 1) := by decide +kernel
theorem dX9_order_89 : decode cX9_order 89 = .ok (.iaload, 1) := by decide +kernel
theorem dX9_order_90 : decode cX9_order 90 = .ok (.iadd, 1) := by decide +kernel
theorem dX9_order_91 : decode cX9_order 91 = .ok (.istore_n 2, 1) := by decide +kernel
theorem dX9_order_92 : decode cX9_order 92 = .ok (.iinc 4 1, 3) := by decide +kernel
theorem dX9_order_95 : decode cX9_order 95 = .ok (.goto (-40), 3) := by decide +kernel
theorem dX9_order_98 : decode cX9_order 98 = .ok (.iload_n 3, 1) := by decide +kernel
theorem dX9_order_99 : decode cX9_order 99 = .ok (.ireturn, 1) := by decide +kernel
theorem dX9_find_0 : decode cX9_find 0 = .ok (.iconst 0, 1) := by decide +kernel
theorem dX9_find_1 : decode cX9_find 1 = .ok (.istore_n 2, 1) := by decide +kernel
theorem dX9_find_2 : decode cX9_find 2 = .ok (.iload_n 2, 1) := by decide +kernel
theorem dX9_find_3 : decode cX9_find 3 = .ok (.aload_n 0, 1) := by decide +kernel
theorem dX9_find_4 : decode cX9_find 4 = .ok (.getfield 103, 3) := by decide +kernel
theorem dX9_find_7 : decode cX9_find 7 = .ok (.iload_n 1, 1) := by decide +kernel
theorem dX9_find_8 : decode cX9_find 8 = .ok (.iaload, 1) := by decide +kernel
theorem dX9_find_9 : decode cX9_find 9 = .ok (.if_icmp .ge 71, 3) := by decide +kernel
theorem dX9_find_12 : decode cX9_find 12 = .ok (.iconst 1, 1) := by decide +kernel
theorem dX9_find_13 : decode cX9_find 13 = .ok (.istore_n 3, 1) := by decide +kernel
theorem dX9_find_14 : decode cX9_find 14 = .ok (.iconst 0, 1) := by decide +kernel
theorem dX9_find_15 : decode cX9_find 15 = .ok (.istore 4, 2) := by decide +kernel
theorem dX9_find_17 : decode cX9_find 17 = .ok (.iload 4, 2) := by decide +kernel
theorem dX9_find_19 : decode cX9_find 19 = .ok (.bipush 10, 2) := by decide +kernel
theorem dX9_find_21 : decode cX9_find 21 = .ok (.if_icmp .ge 47, 3) := by decide +kernel
theorem dX9_find_24 : decode cX9_find 24 = .ok (.iload_n 3, 1) := by decide +kernel
theorem dX9_find_25 : decode cX9_find 25 = .ok (.ifCond .eq 43, 3) := by decide +kernel
theorem dX9_find_28 : decode cX9_find 28 = .ok (.aload_n 0, 1) := by decide +kernel
theorem dX9_find_29 : decode cX9_find 29 = .ok (.getfield 85, 3) := by decide +kernel
theorem dX9_find_32 : decode cX9_find 32 = .ok (.bipush 10, 2) := by decide +kernel
theorem dX9_find_34 : decode cX9_find 34 = .ok (.sipush 300, 3) := by decide +kernel
theorem dX9_find_37 : decode cX9_find 37 = .ok (.iload_n 1, 1) := by decide +kernel
theorem dX9_find_38 : decode cX9_find 38 = .ok (.imul, 1) := by decide +kernel
theorem dX9_find_39 : decode cX9_find 39 = .ok (.iload_n 2, 1) := by decide +kernel
theorem dX9_find_40 : decode cX9_find 40 = .ok (.iadd, 1) := by decide +kernel
theorem dX9_find_41 : decode cX9_find 41 = .ok (.imul, 1) := by decide +kernel
theorem dX9_find_42 : decode cX9_find 42 = .ok (.iload 4, 2) := by decide +kernel
theorem dX9_find_44 : decode cX9_find 44 = .ok (.iadd, 1) := by decide +kernel
theorem dX9_find_45 : decode cX9_find 45 = .ok (.iaload, 1) := by decide +kernel
theorem dX9_find_46 : decode cX9_find 46 = .ok (.aload_n 0, 1) := by decide +kernel
theorem dX9_find_47 : decode cX9_find 47 = .ok (.getfield 106, 3) := by decide +kernel
theorem dX9_find_50 : decode cX9_find 50 = .ok (.iload 4, 2) := by decide +kernel
theorem dX9_find_52 : decode cX9_find 52 = .ok (.iaload, 1) := by decide +kernel
theorem dX9_find_53 : decode cX9_find 53 = .ok (.if_icmp .ne 7, 3) := by decide +kernel
theorem dX9_find_56 : decode cX9_find 56 = .ok (.iconst 1, 1) := by decide +kernel
theorem dX9_find_57 : decode cX9_find 57 = .ok (.goto 4, 3) := by decide +kernel
theorem dX9_find_60 : decode cX9_find 60 = .ok (.iconst 0, 1) := by decide +kernel
theorem dX9_find_61 : decode cX9_find 61 = .ok (.istore_n 3, 1) := by decide +kernel
theorem dX9_find_62 : decode cX9_find 62 = .ok (.iinc 4 1, 3) := by decide +kernel
theorem dX9_find_65 : decode cX9_find 65 = .ok (.goto (-48), 3) := by decide +kernel
theorem dX9_find_68 : decode cX9_find 68 = .ok (.iload_n 3, 1) := by decide +kernel
theorem dX9_find_69 : decode cX9_find 69 = .ok (.ifCond .eq 5, 3) := by decide +kernel
theorem dX9_find_72 : decode cX9_find 72 = .ok (.iload_n 2, 1) := by decide +kernel
theorem dX9_find_73 : decode cX9_find 73 = .ok (.ireturn, 1) := by decide +kernel
theorem dX9_find_74 : decode cX9_find 74 = .ok (.iinc 2 1, 3) := by decide +kernel
theorem dX9_find_77 : decode cX9_find 77 = .ok (.goto (-75), 3) := by decide +kernel
theorem dX9_find_80 : decode cX9_find 80 = .ok (.iconst (-1), 1) := by decide +kernel
theorem dX9_find_81 : decode cX9_find 81 = .ok (.ireturn, 1) := by decide +kernel
theorem dX9_comes_0 : decode cX9_comes 0 = .ok (.aload_n 0, 1) := by decide +kernel
theorem dX9_comes_1 : decode cX9_comes 1 = .ok (.iload_n 1, 1) := by decide +kernel
theorem dX9_comes_2 : decode cX9_comes 2 = .ok (.invokevirtual 379, 3) := by decide +kernel
theorem dX9_comes_5 : decode cX9_comes 5 = .ok (.istore 4, 2) := by decide +kernel
theorem dX9_comes_7 : decode cX9_comes 7 = .ok (.iload 4, 2) := by decide +kernel
theorem dX9_comes_9 : decode cX9_comes 9 = .ok (.ifCond .lt 6, 3) := by decide +kernel
theorem dX9_comes_12 : decode cX9_comes 12 = .ok (.iload 4, 2) := by decide +kernel
theorem dX9_comes_14 : decode cX9_comes 14 = .ok (.ireturn, 1) := by decide +kernel
theorem dX9_comes_15 : decode cX9_comes 15 = .ok (.aload_n 0, 1) := by decide +kernel
theorem dX9_comes_16 : decode cX9_comes 16 = .ok (.getfield 103, 3) := by decide +kernel
theorem dX9_comes_19 : decode cX9_comes 19 = .ok (.iload_n 1, 1) := by decide +kernel
theorem dX9_comes_20 : decode cX9_comes 20 = .ok (.iaload, 1) := by decide +kernel
theorem dX9_comes_21 : decode cX9_comes 21 = .ok (.sipush 300, 3) := by decide +kernel
theorem dX9_comes_24 : decode cX9_comes 24 = .ok (.if_icmp .eq 12, 3) := by decide +kernel
theorem dX9_comes_27 : decode cX9_comes 27 = .ok (.aload_n 0, 1) := by decide +kernel
theorem dX9_comes_28 : decode cX9_comes 28 = .ok (.getfield 112, 3) := by decide +kernel
theorem dX9_comes_31 : decode cX9_comes 31 = .ok (.iload_n 1, 1) := by decide +kernel
theorem dX9_comes_32 : decode cX9_comes 32 = .ok (.baload, 1) := by decide +kernel
theorem dX9_comes_33 : decode cX9_comes 33 = .ok (.ifCond .eq 12, 3) := by decide +kernel
theorem dX9_comes_36 : decode cX9_comes 36 = .ok (.aload_n 0, 1) := by decide +kernel
theorem dX9_comes_37 : decode cX9_comes 37 = .ok (.getfield 112, 3) := by decide +kernel
theorem dX9_comes_40 : decode cX9_comes 40 = .ok (.iload_n 1, 1) := by decide +kernel
theorem dX9_comes_41 : decode cX9_comes 41 = .ok (.iconst 1, 1) := by decide +kernel
theorem dX9_comes_42 : decode cX9_comes 42 = .ok (.bastore, 1) := by decide +kernel
theorem dX9_comes_43 : decode cX9_comes 43 = .ok (.iconst (-1), 1) := by decide +kernel
theorem dX9_comes_44 : decode cX9_comes 44 = .ok (.ireturn, 1) := by decide +kernel
theorem dX9_comes_45 : decode cX9_comes 45 = .ok (.sipush 300, 3) := by decide +kernel
theorem dX9_comes_48 : decode cX9_comes 48 = .ok (.iload_n 1, 1) := by decide +kernel
theorem dX9_comes_49 : decode cX9_comes 49 = .ok (.imul, 1) := by decide +kernel
theorem dX9_comes_50 : decode cX9_comes 50 = .ok (.aload_n 0, 1) := by decide +kernel
theorem dX9_comes_51 : decode cX9_comes 51 = .ok (.getfield 103, 3) := by decide +kernel
theorem dX9_comes_54 : decode cX9_comes 54 = .ok (.iload_n 1, 1) := by decide +kernel
theorem dX9_comes_55 : decode cX9_comes 55 = .ok (.iaload, 1) := by decide +kernel
theorem dX9_comes_56 : decode cX9_comes 56 = .ok (.iadd, 1) := by decide +kernel
theorem dX9_comes_57 : decode cX9_comes 57 = .ok (.istore 5, 2) := by decide +kernel
theorem dX9_comes_59 : decode cX9_comes 59 = .ok (.iconst 0, 1) := by decide +kernel
theorem dX9_comes_60 : decode cX9_comes 60 = .ok (.istore 6, 2) := by decide +kernel
theorem dX9_comes_62 : decode cX9_comes 62 = .ok (.iload 6, 2) := by decide +kernel
theorem dX9_comes_64 : decode cX9_comes 64 = .ok (.bipush 10, 2) := by decide +kernel
theorem dX9_comes_66 : decode cX9_comes 66 = .ok (.if_icmp .ge 29, 3) := by decide +kernel
theorem dX9_comes_69 : decode cX9_comes 69 = .ok (.aload_n 0, 1) := by decide +kernel
theorem dX9_comes_70 : decode cX9_comes 70 = .ok (.getfield 85, 3) := by decide +kernel
theorem dX9_comes_73 : decode cX9_comes 73 = .ok (.bipush 10, 2) := by decide +kernel
theorem dX9_comes_75 : decode cX9_comes 75 = .ok (.iload 5, 2) := by decide +kernel
theorem dX9_comes_77 : decode cX9_comes 77 = .ok (.imul, 1) := by decide +kernel
theorem dX9_comes_78 : decode cX9_comes 78 = .ok (.iload 6, 2) := by decide +kernel
theorem dX9_comes_80 : decode cX9_comes 80 = .ok (.iadd, 1) := by decide +kernel
theorem dX9_comes_81 : decode cX9_comes 81 = .ok (.aload_n 0, 1) := by decide +kernel
theorem dX9_comes_82 : decode cX9_comes 82 = .ok (.getfield 106, 3) := by decide +kernel
theorem dX9_comes_85 : decode cX9_comes 85 = .ok (.iload 6, 2) := by decide +kernel
theorem dX9_comes_87 : decode cX9_comes 87 = .ok (.iaload, 1) := by decide +kernel
theorem dX9_comes_88 : decode cX9_comes 88 = .ok (.iastore, 1) := by decide +kernel
theorem dX9_comes_89 : decode cX9_comes 89 = .ok (.iinc 6 1, 3) := by decide +kernel
theorem dX9_comes_92 : decode cX9_comes 92 = .ok (.goto (-30), 3) := by decide +kernel
theorem dX9_comes_95 : decode cX9_comes 95 = .ok (.aload_n 0, 1) := by decide +kernel
theorem dX9_comes_96 : decode cX9_comes 96 = .ok (.getfield 88, 3) := by decide +kernel
theorem dX9_comes_99 : decode cX9_comes 99 = .ok (.iload 5, 2) := by decide +kernel
theorem dX9_comes_101 : decode cX9_comes 101 = .ok (.iload_n 2, 1) := by decide +kernel
theorem dX9_comes_102 : decode cX9_comes 102 = .ok (.iastore, 1) := by decide +kernel
theorem dX9_comes_103 : decode cX9_comes 103 = .ok (.aload_n 0, 1) := by decide +kernel
theorem dX9_comes_104 : decode cX9_comes 104 = .ok (.getfield 91, 3) := by decide +kernel
theorem dX9_comes_107 : decode cX9_comes 107 = .ok (.iload 5, 2) := by decide +kernel
theorem dX9_comes_109 : decode cX9_comes 109 = .ok (.iload_n 3, 1) := by decide +kernel
theorem dX9_comes_110 : decode cX9_comes 110 = .ok (.iastore, 1) := by decide +kernel
theorem dX9_comes_111 : decode cX9_comes 111 = .ok (.aload_n 0, 1) := by decide +kernel
theorem dX9_comes_112 : decode cX9_comes 112 = .ok (.getfield 94, 3) := by decide +kernel
theorem dX9_comes_115 : decode cX9_comes 115 = .ok (.iload 5, 2) := by decide +kernel
theorem dX9_comes_117 : decode cX9_comes 117 = .ok (.iload_n 2, 1) := by decide +kernel
theorem dX9_comes_118 : decode cX9_comes 118 = .ok (.ifCond .ge 7, 3) := by decide +kernel
theorem dX9_comes_121 : decode cX9_comes 121 = .ok (.iconst 0, 1) := by decide +kernel
theorem dX9_comes_122 : decode cX9_comes 122 = .ok (.goto 17, 3) := by decide +kernel
theorem dX9_comes_125 : decode cX9_comes 125 = .ok (.aload_n 0, 1) := by decide +kernel
theorem dX9_comes_126 : decode cX9_comes 126 = .ok (.getfield 94, 3) := by decide +kernel
theorem dX9_comes_129 : decode cX9_comes 129 = .ok (.sipush 300, 3) := by decide +kernel
theorem dX9_comes_132 : decode cX9_comes 132 = .ok (.iload_n 1, 1) := by decide +kernel
theorem dX9_comes_133 : decode cX9_comes 133 = .ok (.imul, 1) := by decide +kernel
theorem dX9_comes_134 : decode cX9_comes 134 = .ok (.iload_n 2, 1) := by decide +kernel
theorem dX9_comes_135 : decode cX9_comes 135 = .ok (.iadd, 1) := by decide +kernel
theorem dX9_comes_136 : decode cX9_comes 136 = .ok (.iaload, 1) := by decide +kernel
theorem dX9_comes_137 : decode cX9_comes 137 = .ok (.iconst 1, 1) := by decide +kernel
theorem dX9_comes_138 : decode cX9_comes 138 = .ok (.iadd, 1) := by decide +kernel
theorem dX9_comes_139 : decode cX9_comes 139 = .ok (.iastore, 1) := by decide +kernel
theorem dX9_comes_140 : decode cX9_comes 140 = .ok (.aload_n 0, 1) := by decide +kernel
theorem dX9_comes_141 : decode cX9_comes 141 = .ok (.getfield 103, 3) := by decide +kernel
theorem dX9_comes_144 : decode cX9_comes 144 = .ok (.iload_n 1, 1) := by decide +kernel
theorem dX9_comes_145 : decode cX9_comes 145 = .ok (.dup2, 1) := by decide +kernel
theorem dX9_comes_146 : decode cX9_comes 146 = .ok (.iaload, 1) := by decide +kernel
theorem dX9_comes_147 : decode cX9_comes 147 = .ok (.iconst 1, 1) := by decide +kernel
theorem dX9_comes_148 : decode cX9_comes 148 = .ok (.iadd, 1) := by decide +kernel
theorem dX9_comes_149 : decode cX9_comes 149 = .ok (.iastore, 1) := by decide +kernel
theorem dX9_comes_150 : decode cX9_comes 150 = .ok (.aload_n 0, 1) := by decide +kernel
theorem dX9_comes_151 : decode cX9_comes 151 = .ok (.getfield 103, 3) := by decide +kernel
theorem dX9_comes_154 : decode cX9_comes 154 = .ok (.iload_n 1, 1) := by decide +kernel
theorem dX9_comes_155 : decode cX9_comes 155 = .ok (.iaload, 1) := by decide +kernel
theorem dX9_comes_156 : decode cX9_comes 156 = .ok (.iconst 1, 1) := by decide +kernel
theorem dX9_comes_157 : decode cX9_comes 157 = .ok (.isub, 1) := by decide +kernel
theorem dX9_comes_158 : decode cX9_comes 158 = .ok (.ireturn, 1) := by decide +kernel
theorem dX9_layGraph_0 : decode cX9_layGraph 0 = .ok (.aload_n 0, 1) := by decide +kernel
theorem dX9_layGraph_1 : decode cX9_layGraph 1 = .ok (.getfield 103, 3) := by decide +kernel
theorem dX9_layGraph_4 : decode cX9_layGraph 4 = .ok (.iload_n 1, 1) := by decide +kernel
theorem dX9_layGraph_5 : decode cX9_layGraph 5 = .ok (.iconst 0, 1) := by decide +kernel
theorem dX9_layGraph_6 : decode cX9_layGraph 6 = .ok (.iastore, 1) := by decide +kernel
theorem dX9_layGraph_7 : decode cX9_layGraph 7 = .ok (.aload_n 0, 1) := by decide +kernel
theorem dX9_layGraph_8 : decode cX9_layGraph 8 = .ok (.getfield 112, 3) := by decide +kernel
theorem dX9_layGraph_11 : decode cX9_layGraph 11 = .ok (.iload_n 1, 1) := by decide +kernel
theorem dX9_layGraph_12 : decode cX9_layGraph 12 = .ok (.iconst 0, 1) := by decide +kernel
theorem dX9_layGraph_13 : decode cX9_layGraph 13 = .ok (.bastore, 1) := by decide +kernel
theorem dX9_layGraph_14 : decode cX9_layGraph 14 = .ok (.iconst 0, 1) := by decide +kernel
theorem dX9_layGraph_15 : decode cX9_layGraph 15 = .ok (.istore_n 2, 1) := by decide +kernel
theorem dX9_layGraph_16 : decode cX9_layGraph 16 = .ok (.iload_n 2, 1) := by decide +kernel
theorem dX9_layGraph_17 : decode cX9_layGraph 17 = .ok (.bipush 10, 2) := by decide +kernel
theorem dX9_layGraph_19 : decode cX9_layGraph 19 = .ok (.if_icmp .ge 26, 3) := by decide +kernel
theorem dX9_layGraph_22 : decode cX9_layGraph 22 = .ok (.aload_n 0, 1) := by decide +kernel
theorem dX9_layGraph_23 : decode cX9_layGraph 23 = .ok (.getfield 106, 3) := by decide +kernel
theorem dX9_layGraph_26 : decode cX9_layGraph 26 = .ok (.iload_n 2, 1) := by decide +kernel
theorem dX9_layGraph_27 : decode cX9_layGraph 27 = .ok (.aload_n 0, 1) := by decide +kernel
theorem dX9_layGraph_28 : decode cX9_layGraph 28 = .ok (.getfield 16, 3) := by decide +kernel
theorem dX9_layGraph_31 : decode cX9_layGraph 31 = .ok (.bipush 10, 2) := by decide +kernel
theorem dX9_layGraph_33 : decode cX9_layGraph 33 = .ok (.iload_n 1, 1) := by decide +kernel
theorem dX9_layGraph_34 : decode cX9_layGraph 34 = .ok (.imul, 1) := by decide +kernel
theorem dX9_layGraph_35 : decode cX9_layGraph 35 = .ok (.iload_n 2, 1) := by decide +kernel
theorem dX9_layGraph_36 : decode cX9_layGraph 36 = .ok (.iadd, 1) := by decide +kernel
theorem dX9_layGraph_37 : decode cX9_layGraph 37 = .ok (.iaload, 1) := by decide +kernel
theorem dX9_layGraph_38 : decode cX9_layGraph 38 = .ok (.iastore, 1) := by decide +kernel
theorem dX9_layGraph_39 : decode cX9_layGraph 39 = .ok (.iinc 2 1, 3) := by decide +kernel
theorem dX9_layGraph_42 : decode cX9_layGraph 42 = .ok (.goto (-26), 3) := by decide +kernel
theorem dX9_layGraph_45 : decode cX9_layGraph 45 = .ok (.aload_n 0, 1) := by decide +kernel
theorem dX9_layGraph_46 : decode cX9_layGraph 46 = .ok (.iload_n 1, 1) := by decide +kernel
theorem dX9_layGraph_47 : decode cX9_layGraph 47 = .ok (.iconst (-1), 1) := by decide +kernel
theorem dX9_layGraph_48 : decode cX9_layGraph 48 = .ok (.iconst (-1), 1) := by decide +kernel
theorem dX9_layGraph_49 : decode cX9_layGraph 49 = .ok (.invokevirtual 382, 3) := by decide +kernel
theorem dX9_layGraph_52 : decode cX9_layGraph 52 = .ok (.pop, 1) := by decide +kernel
theorem dX9_layGraph_53 : decode cX9_layGraph 53 = .ok (.iconst 0, 1) := by decide +kernel
theorem dX9_layGraph_54 : decode cX9_layGraph 54 = .ok (.istore_n 2, 1) := by decide +kernel
theorem dX9_layGraph_55 : decode cX9_layGraph 55 = .ok (.iload_n 2, 1) := by decide +kernel
theorem dX9_layGraph_56 : decode cX9_layGraph 56 = .ok (.aload_n 0, 1) := by decide +kernel
theorem dX9_layGraph_57 : decode cX9_layGraph 57 = .ok (.getfield 103, 3) := by decide +kernel
theorem dX9_layGraph_60 : decode cX9_layGraph 60 = .ok (.iload_n 1, 1) := by decide +kernel
theorem dX9_layGraph_61 : decode cX9_layGraph 61 = .ok (.iaload, 1) := by decide +kernel
theorem dX9_layGraph_62 : decode cX9_layGraph 62 = .ok (.if_icmp .ge 152, 3) := by decide +kernel
theorem dX9_layGraph_65 : decode cX9_layGraph 65 = .ok (.sipush 300, 3) := by decide +kernel
theorem dX9_layGraph_68 : decode cX9_layGraph 68 = .ok (.iload_n 1, 1) := by decide +kernel
theorem dX9_layGraph_69 : decode cX9_layGraph 69 = .ok (.imul, 1) := by decide +kernel
theorem dX9_layGraph_70 : decode cX9_layGraph 70 = .ok (.iload_n 2, 1) := by decide +kernel
theorem dX9_layGraph_71 : decode cX9_layGraph 71 = .ok (.iadd, 1) := by decide +kernel
theorem dX9_layGraph_72 : decode cX9_layGraph 72 = .ok (.istore_n 3, 1) := by decide +kernel
theorem dX9_layGraph_73 : decode cX9_layGraph 73 = .ok (.aload_n 0, 1) := by decide +kernel
theorem dX9_layGraph_74 : decode cX9_layGraph 74 = .ok (.getfield 97, 3) := by decide +kernel
theorem dX9_layGraph_77 : decode cX9_layGraph 77 = .ok (.iload_n 3, 1) := by decide +kernel
theorem dX9_layGraph_78 : decode cX9_layGraph 78 = .ok (.iconst 0, 1) := by decide +kernel
theorem dX9_layGraph_79 : decode cX9_layGraph 79 = .ok (.iastore, 1) := by decide +kernel
theorem dX9_layGraph_80 : decode cX9_layGraph 80 = .ok (.iconst 0, 1) := by decide +kernel
theorem dX9_layGraph_81 : decode cX9_layGraph 81 = .ok (.istore 4, 2) := by decide +kernel
theorem dX9_layGraph_83 : decode cX9_layGraph 83 = .ok (.iload 4, 2) := by decide +kernel
theorem dX9_layGraph_85 : decode cX9_layGraph 85 = .ok (.bipush 8, 2) := by decide +kernel
theorem dX9_layGraph_87 : decode cX9_layGraph 87 = .ok (.if_icmp .ge 121, 3) := by decide +kernel
theorem dX9_layGraph_90 : decode cX9_layGraph 90 = .ok (.aload_n 0, 1) := by decide +kernel
theorem dX9_layGraph_91 : decode cX9_layGraph 91 = .ok (.getfield 100, 3) := by decide +kernel
theorem dX9_layGraph_94 : decode cX9_layGraph 94 = .ok (.bipush 8, 2) := by decide +kernel
theorem dX9_layGraph_96 : decode cX9_layGraph 96 = .ok (.iload_n 3, 1) := by decide +kernel
theorem dX9_layGraph_97 : decode cX9_layGraph 97 = .ok (.imul, 1) := by decide +kernel
theorem dX9_layGraph_98 : decode cX9_layGraph 98 = .ok (.iload 4, 2) := by decide +kernel
theorem dX9_layGraph_100 : decode cX9_layGraph 100 = .ok (.iadd, 1) := by decide +kernel
theorem dX9_layGraph_101 : decode cX9_layGraph 101 = .ok (.iconst (-1), 1) := by decide +kernel
theorem dX9_layGraph_102 : decode cX9_layGraph 102 = .ok (.iastore, 1) := by decide +kernel
theorem dX9_layGraph_103 : decode cX9_layGraph 103 = .ok (.aload_n 0, 1) := by decide +kernel
theorem dX9_layGraph_104 : decode cX9_layGraph 104 = .ok (.iload_n 1, 1) := by decide +kernel
theorem dX9_layGraph_105 : decode cX9_layGraph 105 = .ok (.iload 4, 2) := by decide +kernel
theorem dX9_layGraph_107 : decode cX9_layGraph 107 = .ok (.aload_n 0, 1) := by decide +kernel
theorem dX9_layGraph_108 : decode cX9_layGraph 108 = .ok (.getfield 85, 3) := by decide +kernel
theorem dX9_layGraph_111 : decode cX9_layGraph 111 = .ok (.bipush 10, 2) := by decide +kernel
theorem dX9_layGraph_113 : decode cX9_layGraph 113 = .ok (.iload_n 3, 1) := by decide +kernel
theorem dX9_layGraph_114 : decode cX9_layGraph 114 = .ok (.imul, 1) := by decide +kernel
theorem dX9_layGraph_115 : decode cX9_layGraph 115 = .ok (.invokevirtual 292, 3) := by decide +kernel
theorem dX9_layGraph_118 : decode cX9_layGraph 118 = .ok (.ifCond .ne 6, 3) := by decide +kernel
theorem dX9_layGraph_121 : decode cX9_layGraph 121 = .ok (.goto 81, 3) := by decide +kernel
theorem dX9_layGraph_124 : decode cX9_layGraph 124 = .ok (.aload_n 0, 1) := by decide +kernel
theorem dX9_layGraph_125 : decode cX9_layGraph 125 = .ok (.getfield 97, 3) := by decide +kernel
theorem dX9_layGraph_128 : decode cX9_layGraph 128 = .ok (.iload_n 3, 1) := by decide +kernel
theorem dX9_layGraph_129 : decode cX9_layGraph 129 = .ok (.dup2, 1) := by decide +kernel
theorem dX9_layGraph_130 : decode cX9_layGraph 130 = .ok (.iaload, 1) := by decide +kernel
theorem dX9_layGraph_131 : decode cX9_layGraph 131 = .ok (.iconst 1, 1) := by decide +kernel
theorem dX9_layGraph_132 : decode cX9_layGraph 132 = .ok (.iload 4, 2) := by decide +kernel
theorem dX9_layGraph_134 : decode cX9_layGraph 134 = .ok (.ishl, 1) := by decide +kernel
theorem dX9_layGraph_135 : decode cX9_layGraph 135 = .ok (.ior, 1) := by decide +kernel
theorem dX9_layGraph_136 : decode cX9_layGraph 136 = .ok (.iastore, 1) := by decide +kernel
theorem dX9_layGraph_137 : decode cX9_layGraph 137 = .ok (.iconst 0, 1) := by decide +kernel
theorem dX9_layGraph_138 : decode cX9_layGraph 138 = .ok (.istore 5, 2) := by decide +kernel
theorem dX9_layGraph_140 : decode cX9_layGraph 140 = .ok (.iload 5, 2) := by decide +kernel
theorem dX9_layGraph_142 : decode cX9_layGraph 142 = .ok (.bipush 10, 2) := by decide +kernel
theorem dX9_layGraph_144 : decode cX9_layGraph 144 = .ok (.if_icmp .ge 38, 3) := by decide +kernel
theorem dX9_layGraph_147 : decode cX9_layGraph 147 = .ok (.aload_n 0, 1) := by decide +kernel
theorem dX9_layGraph_148 : decode cX9_layGraph 148 = .ok (.getfield 106, 3) := by decide +kernel
theorem dX9_layGraph_151 : decode cX9_layGraph 151 = .ok (.iload 5, 2) := by decide +kernel
theorem dX9_layGraph_153 : decode cX9_layGraph 153 = .ok (.aload_n 0, 1) := by decide +kernel
theorem dX9_layGraph_154 : decode cX9_layGraph 154 = .ok (.getfield 85, 3) := by decide +kernel
theorem dX9_layGraph_157 : decode cX9_layGraph 157 = .ok (.bipush 10, 2) := by decide +kernel
theorem dX9_layGraph_159 : decode cX9_layGraph 159 = .ok (.iload_n 3, 1) := by decide +kernel
theorem dX9_layGraph_160 : decode cX9_layGraph 160 = .ok (.imul, 1) := by decide +kernel
theorem dX9_layGraph_161 : decode cX9_layGraph 161 = .ok (.iload 5, 2) := by decide +kernel
theorem dX9_layGraph_163 : decode cX9_layGraph 163 = .ok (.iadd, 1) := by decide +kernel
theorem dX9_layGraph_164 : decode cX9_layGraph 164 = .ok (.iaload, 1) := by decide +kernel
theorem dX9_layGraph_165 : decode cX9_layGraph 165 = .ok (.aload_n 0, 1) := by decide +kernel
theorem dX9_layGraph_166 : decode cX9_layGraph 166 = .ok (.iload_n 1, 1) := by decide +kernel
theorem dX9_layGraph_167 : decode cX9_layGraph 167 = .ok (.iload 4, 2) := by decide +kernel
theorem dX9_layGraph_169 : decode cX9_layGraph 169 = .ok (.iload 5, 2) := by decide +kernel
theorem dX9_layGraph_171 : decode cX9_layGraph 171 = .ok (.invokevirtual 279, 3) := by decide +kernel
theorem dX9_layGraph_174 : decode cX9_layGraph 174 = .ok (.iadd, 1) := by decide +kernel
theorem dX9_layGraph_175 : decode cX9_layGraph 175 = .ok (.iastore, 1) := by decide +kernel
theorem dX9_layGraph_176 : decode cX9_layGraph 176 = .ok (.iinc 5 1, 3) := by decide +kernel
theorem dX9_layGraph_179 : decode cX9_layGraph 179 = .ok (.goto (-39), 3) := by decide +kernel
theorem dX9_layGraph_182 : decode cX9_layGraph 182 = .ok (.aload_n 0, 1) := by decide +kernel
theorem dX9_layGraph_183 : decode cX9_layGraph 183 = .ok (.getfield 100, 3) := by decide +kernel
theorem dX9_layGraph_186 : decode cX9_layGraph 186 = .ok (.bipush 8, 2) := by decide +kernel
theorem dX9_layGraph_188 : decode cX9_layGraph 188 = .ok (.iload_n 3, 1) := by decide +kernel
theorem dX9_layGraph_189 : decode cX9_layGraph 189 = .ok (.imul, 1) := by decide +kernel
theorem dX9_layGraph_190 : decode cX9_layGraph 190 = .ok (.iload 4, 2) := by decide +kernel
theorem dX9_layGraph_192 : decode cX9_layGraph 192 = .ok (.iadd, 1) := by decide +kernel
theorem dX9_layGraph_193 : decode cX9_layGraph 193 = .ok (.aload_n 0, 1) := by decide +kernel
theorem dX9_layGraph_194 : decode cX9_layGraph 194 = .ok (.iload_n 1, 1) := by decide +kernel
theorem dX9_layGraph_195 : decode cX9_layGraph 195 = .ok (.iload_n 2, 1) := by decide +kernel
theorem dX9_layGraph_196 : decode cX9_layGraph 196 = .ok (.iload 4, 2) := by decide +kernel
theorem dX9_layGraph_198 : decode cX9_layGraph 198 = .ok (.invokevirtual 382, 3) := by decide +kernel
theorem dX9_layGraph_201 : decode cX9_layGraph 201 = .ok (.iastore, 1) := by decide +kernel
theorem dX9_layGraph_202 : decode cX9_layGraph 202 = .ok (.iinc 4 1, 3) := by decide +kernel
theorem dX9_layGraph_205 : decode cX9_layGraph 205 = .ok (.goto (-122), 3) := by decide +kernel
theorem dX9_layGraph_208 : decode cX9_layGraph 208 = .ok (.iinc 2 1, 3) := by decide +kernel
theorem dX9_layGraph_211 : decode cX9_layGraph 211 = .ok (.goto (-156), 3) := by decide +kernel
theorem dX9_layGraph_214 : decode cX9_layGraph 214 = .ok (.return_, 1) := by decide +kernel
theorem dX9_layNow_0 : decode cX9_layNow 0 = .ok (.aload_n 0, 1) := by decide +kernel
theorem dX9_layNow_1 : decode cX9_layNow 1 = .ok (.getfield 253, 3) := by decide +kernel
theorem dX9_layNow_4 : decode cX9_layNow 4 = .ok (.ifCond .eq 4, 3) := by decide +kernel
theorem dX9_layNow_7 : decode cX9_layNow 7 = .ok (.return_, 1) := by decide +kernel
theorem dX9_layNow_8 : decode cX9_layNow 8 = .ok (.aload_n 0, 1) := by decide +kernel
theorem dX9_layNow_9 : decode cX9_layNow 9 = .ok (.iconst 1, 1) := by decide +kernel
theorem dX9_layNow_10 : decode cX9_layNow 10 = .ok (.putfield 253, 3) := by decide +kernel
theorem dX9_layNow_13 : decode cX9_layNow 13 = .ok (.aload_n 0, 1) := by decide +kernel
theorem dX9_layNow_14 : decode cX9_layNow 14 = .ok (.iconst 0, 1) := by decide +kernel
theorem dX9_layNow_15 : decode cX9_layNow 15 = .ok (.invokevirtual 385, 3) := by decide +kernel
theorem dX9_layNow_18 : decode cX9_layNow 18 = .ok (.aload_n 0, 1) := by decide +kernel
theorem dX9_layNow_19 : decode cX9_layNow 19 = .ok (.invokevirtual 388, 3) := by decide +kernel
theorem dX9_layNow_22 : decode cX9_layNow 22 = .ok (.return_, 1) := by decide +kernel
theorem dX9_goesBack_0 : decode cX9_goesBack 0 = .ok (.iconst 1, 1) := by decide +kernel
theorem dX9_goesBack_1 : decode cX9_goesBack 1 = .ok (.istore_n 2, 1) := by decide +kernel
theorem dX9_goesBack_2 : decode cX9_goesBack 2 = .ok (.iload_n 2, 1) := by decide +kernel
theorem dX9_goesBack_3 : decode cX9_goesBack 3 = .ok (.ifCond .eq 96, 3) := by decide +kernel
theorem dX9_goesBack_6 : decode cX9_goesBack 6 = .ok (.iconst 0, 1) := by decide +kernel
theorem dX9_goesBack_7 : decode cX9_goesBack 7 = .ok (.istore_n 2, 1) := by decide +kernel
theorem dX9_goesBack_8 : decode cX9_goesBack 8 = .ok (.aload_n 0, 1) := by decide +kernel
theorem dX9_goesBack_9 : decode cX9_goesBack 9 = .ok (.getfield 103, 3) := by decide +kernel
theorem dX9_goesBack_12 : decode cX9_goesBack 12 = .ok (.iload_n 1, 1) := by decide +kernel
theorem dX9_goesBack_13 : decode cX9_goesBack 13 = .ok (.iaload, 1) := by decide +kernel
theorem dX9_goesBack_14 : decode cX9_goesBack 14 = .ok (.iconst 1, 1) := by decide +kernel
theorem dX9_goesBack_15 : decode cX9_goesBack 15 = .ok (.isub, 1) := by decide +kernel
theorem dX9_goesBack_16 : decode cX9_goesBack 16 = .ok (.istore_n 3, 1) := by decide +kernel
theorem dX9_goesBack_17 : decode cX9_goesBack 17 = .ok (.iload_n 3, 1) := by decide +kernel
theorem dX9_goesBack_18 : decode cX9_goesBack 18 = .ok (.ifCond .lt 78, 3) := by decide +kernel
theorem dX9_goesBack_21 : decode cX9_goesBack 21 = .ok (.iconst 0, 1) := by decide +kernel
theorem dX9_goesBack_22 : decode cX9_goesBack 22 = .ok (.istore 4, 2) := by decide +kernel
theorem dX9_goesBack_24 : decode cX9_goesBack 24 = .ok (.iload 4, 2) := by decide +kernel
theorem dX9_goesBack_26 : decode cX9_goesBack 26 = .ok (.bipush 8, 2) := by decide +kernel
theorem dX9_goesBack_28 : decode cX9_goesBack 28 = .ok (.if_icmp .ge 62, 3) := by decide +kernel
theorem dX9_goesBack_31 : decode cX9_goesBack 31 = .ok (.aload_n 0, 1) := by decide +kernel
theorem dX9_goesBack_32 : decode cX9_goesBack 32 = .ok (.getfield 115, 3) := by decide +kernel
theorem dX9_goesBack_35 : decode cX9_goesBack 35 = .ok (.iload_n 3, 1) := by decide +kernel
theorem dX9_goesBack_36 : decode cX9_goesBack 36 = .ok (.baload, 1) := by decide +kernel
theorem dX9_goesBack_37 : decode cX9_goesBack 37 = .ok (.ifCond .ne 53, 3) := by decide +kernel
theorem dX9_goesBack_40 : decode cX9_goesBack 40 = .ok (.aload_n 0, 1) := by decide +kernel
theorem dX9_goesBack_41 : decode cX9_goesBack 41 = .ok (.getfield 100, 3) := by decide +kernel
theorem dX9_goesBack_44 : decode cX9_goesBack 44 = .ok (.bipush 8, 2) := by decide +kernel
theorem dX9_goesBack_46 : decode cX9_goesBack 46 = .ok (.sipush 300, 3) := by decide +kernel
theorem dX9_goesBack_49 : decode cX9_goesBack 49 = .ok (.iload_n 1, 1) := by decide +kernel
theorem dX9_goesBack_50 : decode cX9_goesBack 50 = .ok (.imul, 1) := by decide +kernel
theorem dX9_goesBack_51 : decode cX9_goesBack 51 = .ok (.iload_n 3, 1) := by decide +kernel
theorem dX9_goesBack_52 : decode cX9_goesBack 52 = .ok (.iadd, 1) := by decide +kernel
theorem dX9_goesBack_53 : decode cX9_goesBack 53 = .ok (.imul, 1) := by decide +kernel
theorem dX9_goesBack_54 : decode cX9_goesBack 54 = .ok (.iload 4, 2) := by decide +kernel
theorem dX9_goesBack_56 : decode cX9_goesBack 56 = .ok (.iadd, 1) := by decide +kernel
theorem dX9_goesBack_57 : decode cX9_goesBack 57 = .ok (.iaload, 1) := by decide +kernel
theorem dX9_goesBack_58 : decode cX9_goesBack 58 = .ok (.istore 5, 2) := by decide +kernel
theorem dX9_goesBack_60 : decode cX9_goesBack 60 = .ok (.iload 5, 2) := by decide +kernel
theorem dX9_goesBack_62 : decode cX9_goesBack 62 = .ok (.ifCond .lt 22, 3) := by decide +kernel
theorem dX9_goesBack_65 : decode cX9_goesBack 65 = .ok (.aload_n 0, 1) := by decide +kernel
theorem dX9_goesBack_66 : decode cX9_goesBack 66 = .ok (.getfield 115, 3) := by decide +kernel
theorem dX9_goesBack_69 : decode cX9_goesBack 69 = .ok (.iload 5, 2) := by decide +kernel
theorem dX9_goesBack_71 : decode cX9_goesBack 71 = .ok (.baload, 1) := by decide +kernel
theorem dX9_goesBack_72 : decode cX9_goesBack 72 = .ok (.ifCond .eq 12, 3) := by decide +kernel
theorem dX9_goesBack_75 : decode cX9_goesBack 75 = .ok (.aload_n 0, 1) := by decide +kernel
theorem dX9_goesBack_76 : decode cX9_goesBack 76 = .ok (.getfield 115, 3) := by decide +kernel
theorem dX9_goesBack_79 : decode cX9_goesBack 79 = .ok (.iload_n 3, 1) := by decide +kernel
theorem dX9_goesBack_80 : decode cX9_goesBack 80 = .ok (.iconst 1, 1) := by decide +kernel
theorem dX9_goesBack_81 : decode cX9_goesBack 81 = .ok (.bastore, 1) := by decide +kernel
theorem dX9_goesBack_82 : decode cX9_goesBack 82 = .ok (.iconst 1, 1) := by decide +kernel
theorem dX9_goesBack_83 : decode cX9_goesBack 83 = .ok (.istore_n 2, 1) := by decide +kernel
theorem dX9_goesBack_84 : decode cX9_goesBack 84 = .ok (.iinc 4 1, 3) := by decide +kernel
theorem dX9_goesBack_87 : decode cX9_goesBack 87 = .ok (.goto (-63), 3) := by decide +kernel
theorem dX9_goesBack_90 : decode cX9_goesBack 90 = .ok (.iinc 3 (-1), 3) := by decide +kernel
theorem dX9_goesBack_93 : decode cX9_goesBack 93 = .ok (.goto (-76), 3) := by decide +kernel
theorem dX9_goesBack_96 : decode cX9_goesBack 96 = .ok (.goto (-94), 3) := by decide +kernel
theorem dX9_goesBack_99 : decode cX9_goesBack 99 = .ok (.return_, 1) := by decide +kernel
theorem dX9_goesForth_0 : decode cX9_goesForth 0 = .ok (.iconst 0, 1) := by decide +kernel
theorem dX9_goesForth_1 : decode cX9_goesForth 1 = .ok (.istore_n 2, 1) := by decide +kernel
theorem dX9_goesForth_2 : decode cX9_goesForth 2 = .ok (.iload_n 2, 1) := by decide +kernel
theorem dX9_goesForth_3 : decode cX9_goesForth 3 = .ok (.aload_n 0, 1) := by decide +kernel
theorem dX9_goesForth_4 : decode cX9_goesForth 4 = .ok (.getfield 103, 3) := by decide +kernel
theorem dX9_goesForth_7 : decode cX9_goesForth 7 = .ok (.iconst 0, 1) := by decide +kernel
theorem dX9_goesForth_8 : decode cX9_goesForth 8 = .ok (.iaload, 1) := by decide +kernel
theorem dX9_goesForth_9 : decode cX9_goesForth 9 = .ok (.if_icmp .ge 25, 3) := by decide +kernel
theorem dX9_goesForth_12 : decode cX9_goesForth 12 = .ok (.aload_n 0, 1) := by decide +kernel
theorem dX9_goesForth_13 : decode cX9_goesForth 13 = .ok (.getfield 118, 3) := by decide +kernel
theorem dX9_goesForth_16 : decode cX9_goesForth 16 = .ok (.iload_n 2, 1) := by decide +kernel
theorem dX9_goesForth_17 : decode cX9_goesForth 17 = .ok (.iload_n 2, 1) := by decide +kernel
theorem dX9_goesForth_18 : decode cX9_goesForth 18 = .ok (.iload_n 1, 1) := by decide +kernel
theorem dX9_goesForth_19 : decode cX9_goesForth 19 = .ok (.if_icmp .ne 7, 3) := by decide +kernel
theorem dX9_goesForth_22 : decode cX9_goesForth 22 = .ok (.iconst 1, 1) := by decide +kernel
theorem dX9_goesForth_23 : decode cX9_goesForth 23 = .ok (.goto 4, 3) := by decide +kernel
theorem dX9_goesForth_26 : decode cX9_goesForth 26 = .ok (.iconst 0, 1) := by decide +kernel
theorem dX9_goesForth_27 : decode cX9_goesForth 27 = .ok (.bastore, 1) := by decide +kernel
theorem dX9_goesForth_28 : decode cX9_goesForth 28 = .ok (.iinc 2 1, 3) := by decide +kernel
theorem dX9_goesForth_31 : decode cX9_goesForth 31 = .ok (.goto (-29), 3) := by decide +kernel
theorem dX9_goesForth_34 : decode cX9_goesForth 34 = .ok (.aload_n 0, 1) := by decide +kernel
theorem dX9_goesForth_35 : decode cX9_goesForth 35 = .ok (.getfield 109, 3) := by decide +kernel
theorem dX9_goesForth_38 : decode cX9_goesForth 38 = .ok (.iconst 0, 1) := by decide +kernel
theorem dX9_goesForth_39 : decode cX9_goesForth 39 = .ok (.iload_n 1, 1) := by decide +kernel
theorem dX9_goesForth_40 : decode cX9_goesForth 40 = .ok (.iastore, 1) := by decide +kernel
theorem dX9_goesForth_41 : decode cX9_goesForth 41 = .ok (.iconst 1, 1) := by decide +kernel
theorem dX9_goesForth_42 : decode cX9_goesForth 42 = .ok (.istore_n 2, 1) := by decide +kernel
theorem dX9_goesForth_43 : decode cX9_goesForth 43 = .ok (.iconst 0, 1) := by decide +kernel
theorem dX9_goesForth_44 : decode cX9_goesForth 44 = .ok (.istore_n 3, 1) := by decide +kernel
theorem dX9_goesForth_45 : decode cX9_goesForth 45 = .ok (.iload_n 3, 1) := by decide +kernel
theorem dX9_goesForth_46 : decode cX9_goesForth 46 = .ok (.iload_n 2, 1) := by decide +kernel
theorem dX9_goesForth_47 : decode cX9_goesForth 47 = .ok (.if_icmp .ge 78, 3) := by decide +kernel
theorem dX9_goesForth_50 : decode cX9_goesForth 50 = .ok (.iconst 0, 1) := by decide +kernel
theorem dX9_goesForth_51 : decode cX9_goesForth 51 = .ok (.istore 4, 2) := by decide +kernel
theorem dX9_goesForth_53 : decode cX9_goesForth 53 = .ok (.iload 4, 2) := by decide +kernel
theorem dX9_goesForth_55 : decode cX9_goesForth 55 = .ok (.bipush 8, 2) := by decide +kernel
theorem dX9_goesForth_57 : decode cX9_goesForth 57 = .ok (.if_icmp .ge 62, 3) := by decide +kernel
theorem dX9_goesForth_60 : decode cX9_goesForth 60 = .ok (.aload_n 0, 1) := by decide +kernel
theorem dX9_goesForth_61 : decode cX9_goesForth 61 = .ok (.getfield 100, 3) := by decide +kernel
theorem dX9_goesForth_64 : decode cX9_goesForth 64 = .ok (.bipush 8, 2) := by decide +kernel
theorem dX9_goesForth_66 : decode cX9_goesForth 66 = .ok (.aload_n 0, 1) := by decide +kernel
theorem dX9_goesForth_67 : decode cX9_goesForth 67 = .ok (.getfield 109, 3) := by decide +kernel
theorem dX9_goesForth_70 : decode cX9_goesForth 70 = .ok (.iload_n 3, 1) := by decide +kernel
theorem dX9_goesForth_71 : decode cX9_goesForth 71 = .ok (.iaload, 1) := by decide +kernel
theorem dX9_goesForth_72 : decode cX9_goesForth 72 = .ok (.imul, 1) := by decide +kernel
theorem dX9_goesForth_73 : decode cX9_goesForth 73 = .ok (.iload 4, 2) := by decide +kernel
theorem dX9_goesForth_75 : decode cX9_goesForth 75 = .ok (.iadd, 1) := by decide +kernel
theorem dX9_goesForth_76 : decode cX9_goesForth 76 = .ok (.iaload, 1) := by decide +kernel
theorem dX9_goesForth_77 : decode cX9_goesForth 77 = .ok (.istore 5, 2) := by decide +kernel
theorem dX9_goesForth_79 : decode cX9_goesForth 79 = .ok (.iload 5, 2) := by decide +kernel
theorem dX9_goesForth_81 : decode cX9_goesForth 81 = .ok (.ifCond .lt 32, 3) := by decide +kernel
theorem dX9_goesForth_84 : decode cX9_goesForth 84 = .ok (.aload_n 0, 1) := by decide +kernel
theorem dX9_goesForth_85 : decode cX9_goesForth 85 = .ok (.getfield 118, 3) := by decide +kernel
theorem dX9_goesForth_88 : decode cX9_goesForth 88 = .ok (.iload 5, 2) := by decide +kernel
theorem dX9_goesForth_90 : decode cX9_goesForth 90 = .ok (.baload, 1) := by decide +kernel
theorem dX9_goesForth_91 : decode cX9_goesForth 91 = .ok (.ifCond .ne 22, 3) := by decide +kernel
theorem dX9_goesForth_94 : decode cX9_goesForth 94 = .ok (.aload_n 0, 1) := by decide +kernel
theorem dX9_goesForth_95 : decode cX9_goesForth 95 = .ok (.getfield 118, 3) := by decide +kernel
theorem dX9_goesForth_98 : decode cX9_goesForth 98 = .ok (.iload 5, 2) := by decide +kernel
theorem dX9_goesForth_100 : decode cX9_goesForth 100 = .ok (.iconst 1, 1) := by decide +kernel
theorem dX9_goesForth_101 : decode cX9_goesForth 101 = .ok (.bastore, 1) := by decide +kernel
theorem dX9_goesForth_102 : decode cX9_goesForth 102 = .ok (.aload_n 0, 1) := by decide +kernel
theorem dX9_goesForth_103 : decode cX9_goesForth 103 = .ok (.getfield 109, 3) := by decide +kernel
theorem dX9_goesForth_106 : decode cX9_goesForth 106 = .ok (.iload_n 2, 1) := by decide +kernel
theorem dX9_goesForth_107 : decode cX9_goesForth 107 = .ok (.iload 5, 2) := by decide +kernel
theorem dX9_goesForth_109 : decode cX9_goesForth 109 = .ok (.iastore, 1) := by decide +kernel
theorem dX9_goesForth_110 : decode cX9_goesForth 110 = .ok (.iinc 2 1, 3) := by decide +kernel
theorem dX9_goesForth_113 : decode cX9_goesForth 113 = .ok (.iinc 4 1, 3) := by decide +kernel
theorem dX9_goesForth_116 : decode cX9_goesForth 116 = .ok (.goto (-63), 3) := by decide +kernel
theorem dX9_goesForth_119 : decode cX9_goesForth 119 = .ok (.iinc 3 1, 3) := by decide +kernel
theorem dX9_goesForth_122 : decode cX9_goesForth 122 = .ok (.goto (-77), 3) := by decide +kernel
theorem dX9_goesForth_125 : decode cX9_goesForth 125 = .ok (.return_, 1) := by decide +kernel
theorem dX9_layHome_0 : decode cX9_layHome 0 = .ok (.iconst 0, 1) := by decide +kernel
theorem dX9_layHome_1 : decode cX9_layHome 1 = .ok (.istore_n 1, 1) := by decide +kernel
theorem dX9_layHome_2 : decode cX9_layHome 2 = .ok (.iconst 1, 1) := by decide +kernel
theorem dX9_layHome_3 : decode cX9_layHome 3 = .ok (.istore_n 2, 1) := by decide +kernel
theorem dX9_layHome_4 : decode cX9_layHome 4 = .ok (.iload_n 2, 1) := by decide +kernel
theorem dX9_layHome_5 : decode cX9_layHome 5 = .ok (.ifCond .eq 96, 3) := by decide +kernel
theorem dX9_layHome_8 : decode cX9_layHome 8 = .ok (.iconst 0, 1) := by decide +kernel
theorem dX9_layHome_9 : decode cX9_layHome 9 = .ok (.istore_n 2, 1) := by decide +kernel
theorem dX9_layHome_10 : decode cX9_layHome 10 = .ok (.aload_n 0, 1) := by decide +kernel
theorem dX9_layHome_11 : decode cX9_layHome 11 = .ok (.iload_n 1, 1) := by decide +kernel
theorem dX9_layHome_12 : decode cX9_layHome 12 = .ok (.invokevirtual 391, 3) := by decide +kernel
theorem dX9_layHome_15 : decode cX9_layHome 15 = .ok (.iconst 0, 1) := by decide +kernel
theorem dX9_layHome_16 : decode cX9_layHome 16 = .ok (.istore_n 3, 1) := by decide +kernel
theorem dX9_layHome_17 : decode cX9_layHome 17 = .ok (.iload_n 3, 1) := by decide +kernel
theorem dX9_layHome_18 : decode cX9_layHome 18 = .ok (.aload_n 0, 1) := by decide +kernel
theorem dX9_layHome_19 : decode cX9_layHome 19 = .ok (.getfield 103, 3) := by decide +kernel
theorem dX9_layHome_22 : decode cX9_layHome 22 = .ok (.iconst 0, 1) := by decide +kernel
theorem dX9_layHome_23 : decode cX9_layHome 23 = .ok (.iaload, 1) := by decide +kernel
theorem dX9_layHome_24 : decode cX9_layHome 24 = .ok (.if_icmp .ge 25, 3) := by decide +kernel
theorem dX9_layHome_27 : decode cX9_layHome 27 = .ok (.aload_n 0, 1) := by decide +kernel
theorem dX9_layHome_28 : decode cX9_layHome 28 = .ok (.getfield 115, 3) := by decide +kernel
theorem dX9_layHome_31 : decode cX9_layHome 31 = .ok (.iload_n 3, 1) := by decide +kernel
theorem dX9_layHome_32 : decode cX9_layHome 32 = .ok (.iload_n 3, 1) := by decide +kernel
theorem dX9_layHome_33 : decode cX9_layHome 33 = .ok (.iload_n 1, 1) := by decide +kernel
theorem dX9_layHome_34 : decode cX9_layHome 34 = .ok (.if_icmp .ne 7, 3) := by decide +kernel
theorem dX9_layHome_37 : decode cX9_layHome 37 = .ok (.iconst 1, 1) := by decide +kernel
theorem dX9_layHome_38 : decode cX9_layHome 38 = .ok (.goto 4, 3) := by decide +kernel
theorem dX9_layHome_41 : decode cX9_layHome 41 = .ok (.iconst 0, 1) := by decide +kernel
theorem dX9_layHome_42 : decode cX9_layHome 42 = .ok (.bastore, 1) := by decide +kernel
theorem dX9_layHome_43 : decode cX9_layHome 43 = .ok (.iinc 3 1, 3) := by decide +kernel
theorem dX9_layHome_46 : decode cX9_layHome 46 = .ok (.goto (-29), 3) := by decide +kernel
theorem dX9_layHome_49 : decode cX9_layHome 49 = .ok (.aload_n 0, 1) := by decide +kernel
theorem dX9_layHome_50 : decode cX9_layHome 50 = .ok (.iconst 0, 1) := by decide +kernel
theorem dX9_layHome_51 : decode cX9_layHome 51 = .ok (.invokevirtual 394, 3) := by decide +kernel
theorem dX9_layHome_54 : decode cX9_layHome 54 = .ok (.iconst 0, 1) := by decide +kernel
theorem dX9_layHome_55 : decode cX9_layHome 55 = .ok (.istore_n 3, 1) := by decide +kernel
theorem dX9_layHome_56 : decode cX9_layHome 56 = .ok (.iload_n 3, 1) := by decide +kernel
theorem dX9_layHome_57 : decode cX9_layHome 57 = .ok (.aload_n 0, 1) := by decide +kernel
theorem dX9_layHome_58 : decode cX9_layHome 58 = .ok (.getfield 103, 3) := by decide +kernel
theorem dX9_layHome_61 : decode cX9_layHome 61 = .ok (.iconst 0, 1) := by decide +kernel
theorem dX9_layHome_62 : decode cX9_layHome 62 = .ok (.iaload, 1) := by decide +kernel
theorem dX9_layHome_63 : decode cX9_layHome 63 = .ok (.if_icmp .ge 35, 3) := by decide +kernel
theorem dX9_layHome_66 : decode cX9_layHome 66 = .ok (.iload_n 2, 1) := by decide +kernel
theorem dX9_layHome_67 : decode cX9_layHome 67 = .ok (.ifCond .ne 31, 3) := by decide +kernel
theorem dX9_layHome_70 : decode cX9_layHome 70 = .ok (.aload_n 0, 1) := by decide +kernel
theorem dX9_layHome_71 : decode cX9_layHome 71 = .ok (.getfield 118, 3) := by decide +kernel
theorem dX9_layHome_74 : decode cX9_layHome 74 = .ok (.iload_n 3, 1) := by decide +kernel
theorem dX9_layHome_75 : decode cX9_layHome 75 = .ok (.baload, 1) := by decide +kernel
theorem dX9_layHome_76 : decode cX9_layHome 76 = .ok (.ifCond .eq 16, 3) := by decide +kernel
theorem dX9_layHome_79 : decode cX9_layHome 79 = .ok (.aload_n 0, 1) := by decide +kernel
theorem dX9_layHome_80 : decode cX9_layHome 80 = .ok (.getfield 115, 3) := by decide +kernel
theorem dX9_layHome_83 : decode cX9_layHome 83 = .ok (.iload_n 3, 1) := by decide +kernel
theorem dX9_layHome_84 : decode cX9_layHome 84 = .ok (.baload, 1) := by decide +kernel
theorem dX9_layHome_85 : decode cX9_layHome 85 = .ok (.ifCond .ne 7, 3) := by decide +kernel
theorem dX9_layHome_88 : decode cX9_layHome 88 = .ok (.iload_n 3, 1) := by decide +kernel
theorem dX9_layHome_89 : decode cX9_layHome 89 = .ok (.istore_n 1, 1) := by decide +kernel
theorem dX9_layHome_90 : decode cX9_layHome 90 = .ok (.iconst 1, 1) := by decide +kernel
theorem dX9_layHome_91 : decode cX9_layHome 91 = .ok (.istore_n 2, 1) := by decide +kernel
theorem dX9_layHome_92 : decode cX9_layHome 92 = .ok (.iinc 3 1, 3) := by decide +kernel
theorem dX9_layHome_95 : decode cX9_layHome 95 = .ok (.goto (-39), 3) := by decide +kernel
theorem dX9_layHome_98 : decode cX9_layHome 98 = .ok (.goto (-94), 3) := by decide +kernel
theorem dX9_layHome_101 : decode cX9_layHome 101 = .ok (.iconst 1, 1) := by decide +kernel
theorem dX9_layHome_102 : decode cX9_layHome 102 = .ok (.istore_n 3, 1) := by decide +kernel
theorem dX9_layHome_103 : decode cX9_layHome 103 = .ok (.iconst 0, 1) := by decide +kernel
theorem dX9_layHome_104 : decode cX9_layHome 104 = .ok (.istore 4, 2) := by decide +kernel
theorem dX9_layHome_106 : decode cX9_layHome 106 = .ok (.iload 4, 2) := by decide +kernel
theorem dX9_layHome_108 : decode cX9_layHome 108 = .ok (.aload_n 0, 1) := by decide +kernel
theorem dX9_layHome_109 : decode cX9_layHome 109 = .ok (.getfield 103, 3) := by decide +kernel
theorem dX9_layHome_112 : decode cX9_layHome 112 = .ok (.iconst 0, 1) := by decide +kernel
theorem dX9_layHome_113 : decode cX9_layHome 113 = .ok (.iaload, 1) := by decide +kernel
theorem dX9_layHome_114 : decode cX9_layHome 114 = .ok (.if_icmp .ge 19, 3) := by decide +kernel
theorem dX9_layHome_117 : decode cX9_layHome 117 = .ok (.iload_n 3, 1) := by decide +kernel
theorem dX9_layHome_118 : decode cX9_layHome 118 = .ok (.aload_n 0, 1) := by decide +kernel
theorem dX9_layHome_119 : decode cX9_layHome 119 = .ok (.getfield 115, 3) := by decide +kernel
theorem dX9_layHome_122 : decode cX9_layHome 122 = .ok (.iload 4, 2) := by decide +kernel
theorem dX9_layHome_124 : decode cX9_layHome 124 = .ok (.baload, 1) := by decide +kernel
theorem dX9_layHome_125 : decode cX9_layHome 125 = .ok (.iand, 1) := by decide +kernel
theorem dX9_layHome_126 : decode cX9_layHome 126 = .ok (.istore_n 3, 1) := by decide +kernel
theorem dX9_layHome_127 : decode cX9_layHome 127 = .ok (.iinc 4 1, 3) := by decide +kernel
theorem dX9_layHome_130 : decode cX9_layHome 130 = .ok (.goto (-24), 3) := by decide +kernel
theorem dX9_layHome_133 : decode cX9_layHome 133 = .ok (.iconst 0, 1) := by decide +kernel
theorem dX9_layHome_134 : decode cX9_layHome 134 = .ok (.istore 4, 2) := by decide +kernel
theorem dX9_layHome_136 : decode cX9_layHome 136 = .ok (.iload 4, 2) := by decide +kernel
theorem dX9_layHome_138 : decode cX9_layHome 138 = .ok (.aload_n 0, 1) := by decide +kernel
theorem dX9_layHome_139 : decode cX9_layHome 139 = .ok (.getfield 103, 3) := by decide +kernel
theorem dX9_layHome_142 : decode cX9_layHome 142 = .ok (.iconst 0, 1) := by decide +kernel
theorem dX9_layHome_143 : decode cX9_layHome 143 = .ok (.iaload, 1) := by decide +kernel
theorem dX9_layHome_144 : decode cX9_layHome 144 = .ok (.if_icmp .ge 35, 3) := by decide +kernel
theorem dX9_layHome_147 : decode cX9_layHome 147 = .ok (.aload_n 0, 1) := by decide +kernel
theorem dX9_layHome_148 : decode cX9_layHome 148 = .ok (.getfield 121, 3) := by decide +kernel
theorem dX9_layHome_151 : decode cX9_layHome 151 = .ok (.iload 4, 2) := by decide +kernel
theorem dX9_layHome_153 : decode cX9_layHome 153 = .ok (.iload_n 3, 1) := by decide +kernel
theorem dX9_layHome_154 : decode cX9_layHome 154 = .ok (.ifCond .eq 17, 3) := by decide +kernel
theorem dX9_layHome_157 : decode cX9_layHome 157 = .ok (.aload_n 0, 1) := by decide +kernel
theorem dX9_layHome_158 : decode cX9_layHome 158 = .ok (.getfield 118, 3) := by decide +kernel
theorem dX9_layHome_161 : decode cX9_layHome 161 = .ok (.iload 4, 2) := by decide +kernel
theorem dX9_layHome_163 : decode cX9_layHome 163 = .ok (.baload, 1) := by decide +kernel
theorem dX9_layHome_164 : decode cX9_layHome 164 = .ok (.ifCond .eq 7, 3) := by decide +kernel
theorem dX9_layHome_167 : decode cX9_layHome 167 = .ok (.iconst 1, 1) := by decide +kernel
theorem dX9_layHome_168 : decode cX9_layHome 168 = .ok (.goto 4, 3) := by decide +kernel
theorem dX9_layHome_171 : decode cX9_layHome 171 = .ok (.iconst 0, 1) := by decide +kernel
theorem dX9_layHome_172 : decode cX9_layHome 172 = .ok (.bastore, 1) := by decide +kernel
theorem dX9_layHome_173 : decode cX9_layHome 173 = .ok (.iinc 4 1, 3) := by decide +kernel
theorem dX9_layHome_176 : decode cX9_layHome 176 = .ok (.goto (-40), 3) := by decide +kernel
theorem dX9_layHome_179 : decode cX9_layHome 179 = .ok (.return_, 1) := by decide +kernel
theorem dX9_isLive_0 : decode cX9_isLive 0 = .ok (.iconst 1, 1) := by decide +kernel
theorem dX9_isLive_1 : decode cX9_isLive 1 = .ok (.istore_n 3, 1) := by decide +kernel
theorem dX9_isLive_2 : decode cX9_isLive 2 = .ok (.iconst 0, 1) := by decide +kernel
theorem dX9_isLive_3 : decode cX9_isLive 3 = .ok (.istore 4, 2) := by decide +kernel
theorem dX9_isLive_5 : decode cX9_isLive 5 = .ok (.iload 4, 2) := by decide +kernel
theorem dX9_isLive_7 : decode cX9_isLive 7 = .ok (.aload_n 0, 1) := by decide +kernel
theorem dX9_isLive_8 : decode cX9_isLive 8 = .ok (.getfield 103, 3) := by decide +kernel
theorem dX9_isLive_11 : decode cX9_isLive 11 = .ok (.iload_n 1, 1) := by decide +kernel
theorem dX9_isLive_12 : decode cX9_isLive 12 = .ok (.iaload, 1) := by decide +kernel
theorem dX9_isLive_13 : decode cX9_isLive 13 = .ok (.if_icmp .ge 33, 3) := by decide +kernel
theorem dX9_isLive_16 : decode cX9_isLive 16 = .ok (.aload_n 0, 1) := by decide +kernel
theorem dX9_isLive_17 : decode cX9_isLive 17 = .ok (.getfield 115, 3) := by decide +kernel
theorem dX9_isLive_20 : decode cX9_isLive 20 = .ok (.iload 4, 2) := by decide +kernel
theorem dX9_isLive_22 : decode cX9_isLive 22 = .ok (.aload_n 0, 1) := by decide +kernel
theorem dX9_isLive_23 : decode cX9_isLive 23 = .ok (.getfield 97, 3) := by decide +kernel
theorem dX9_isLive_26 : decode cX9_isLive 26 = .ok (.sipush 300, 3) := by decide +kernel
theorem dX9_isLive_29 : decode cX9_isLive 29 = .ok (.iload_n 1, 1) := by decide +kernel
theorem dX9_isLive_30 : decode cX9_isLive 30 = .ok (.imul, 1) := by decide +kernel
theorem dX9_isLive_31 : decode cX9_isLive 31 = .ok (.iload 4, 2) := by decide +kernel
theorem dX9_isLive_33 : decode cX9_isLive 33 = .ok (.iadd, 1) := by decide +kernel
theorem dX9_isLive_34 : decode cX9_isLive 34 = .ok (.iaload, 1) := by decide +kernel
theorem dX9_isLive_35 : decode cX9_isLive 35 = .ok (.iload_n 2, 1) := by decide +kernel
theorem dX9_isLive_36 : decode cX9_isLive 36 = .ok (.invokestatic 140, 3) := by decide +kernel
theorem dX9_isLive_39 : decode cX9_isLive 39 = .ok (.bastore, 1) := by decide +kernel
theorem dX9_isLive_40 : decode cX9_isLive 40 = .ok (.iinc 4 1, 3) := by decide +kernel
theorem dX9_isLive_43 : decode cX9_isLive 43 = .ok (.goto (-38), 3) := by decide +kernel
theorem dX9_isLive_46 : decode cX9_isLive 46 = .ok (.aload_n 0, 1) := by decide +kernel
theorem dX9_isLive_47 : decode cX9_isLive 47 = .ok (.iload_n 1, 1) := by decide +kernel
theorem dX9_isLive_48 : decode cX9_isLive 48 = .ok (.invokevirtual 394, 3) := by decide +kernel
theorem dX9_isLive_51 : decode cX9_isLive 51 = .ok (.iconst 0, 1) := by decide +kernel
theorem dX9_isLive_52 : decode cX9_isLive 52 = .ok (.istore 4, 2) := by decide +kernel
theorem dX9_isLive_54 : decode cX9_isLive 54 = .ok (.iload 4, 2) := by decide +kernel
theorem dX9_isLive_56 : decode cX9_isLive 56 = .ok (.aload_n 0, 1) := by decide +kernel
theorem dX9_isLive_57 : decode cX9_isLive 57 = .ok (.getfield 103, 3) := by decide +kernel
theorem dX9_isLive_60 : decode cX9_isLive 60 = .ok (.iload_n 1, 1) := by decide +kernel
theorem dX9_isLive_61 : decode cX9_isLive 61 = .ok (.iaload, 1) := by decide +kernel
theorem dX9_isLive_62 : decode cX9_isLive 62 = .ok (.if_icmp .ge 19, 3) := by decide +kernel
theorem dX9_isLive_65 : decode cX9_isLive 65 = .ok (.iload_n 3, 1) := by decide +kernel
theorem dX9_isLive_66 : decode cX9_isLive 66 = .ok (.aload_n 0, 1) := by decide +kernel
theorem dX9_isLive_67 : decode cX9_isLive 67 = .ok (.getfield 115, 3) := by decide +kernel
theorem dX9_isLive_70 : decode cX9_isLive 70 = .ok (.iload 4, 2) := by decide +kernel
theorem dX9_isLive_72 : decode cX9_isLive 72 = .ok (.baload, 1) := by decide +kernel
theorem dX9_isLive_73 : decode cX9_isLive 73 = .ok (.iand, 1) := by decide +kernel
theorem dX9_isLive_74 : decode cX9_isLive 74 = .ok (.istore_n 3, 1) := by decide +kernel
theorem dX9_isLive_75 : decode cX9_isLive 75 = .ok (.iinc 4 1, 3) := by decide +kernel
theorem dX9_isLive_78 : decode cX9_isLive 78 = .ok (.goto (-24), 3) := by decide +kernel
theorem dX9_isLive_81 : decode cX9_isLive 81 = .ok (.iload_n 3, 1) := by decide +kernel
theorem dX9_isLive_82 : decode cX9_isLive 82 = .ok (.ireturn, 1) := by decide +kernel
theorem dX9_dead_0 : decode cX9_dead 0 = .ok (.iconst 0, 1) := by decide +kernel
theorem dX9_dead_1 : decode cX9_dead 1 = .ok (.istore_n 2, 1) := by decide +kernel
theorem dX9_dead_2 : decode cX9_dead 2 = .ok (.iconst 0, 1) := by decide +kernel
theorem dX9_dead_3 : decode cX9_dead 3 = .ok (.istore_n 3, 1) := by decide +kernel
theorem dX9_dead_4 : decode cX9_dead 4 = .ok (.iload_n 3, 1) := by decide +kernel
theorem dX9_dead_5 : decode cX9_dead 5 = .ok (.aload_n 0, 1) := by decide +kernel
theorem dX9_dead_6 : decode cX9_dead 6 = .ok (.getfield 103, 3) := by decide +kernel
theorem dX9_dead_9 : decode cX9_dead 9 = .ok (.iload_n 1, 1) := by decide +kernel
theorem dX9_dead_10 : decode cX9_dead 10 = .ok (.iaload, 1) := by decide +kernel
theorem dX9_dead_11 : decode cX9_dead 11 = .ok (.if_icmp .ge 32, 3) := by decide +kernel
theorem dX9_dead_14 : decode cX9_dead 14 = .ok (.iload_n 2, 1) := by decide +kernel
theorem dX9_dead_15 : decode cX9_dead 15 = .ok (.aload_n 0, 1) := by decide +kernel
theorem dX9_dead_16 : decode cX9_dead 16 = .ok (.getfield 97, 3) := by decide +kernel
theorem dX9_dead_19 : decode cX9_dead 19 = .ok (.sipush 300, 3) := by decide +kernel
theorem dX9_dead_22 : decode cX9_dead 22 = .ok (.iload_n 1, 1) := by decide +kernel
theorem dX9_dead_23 : decode cX9_dead 23 = .ok (.imul, 1) := by decide +kernel
theorem dX9_dead_24 : decode cX9_dead 24 = .ok (.iload_n 3, 1) := by decide +kernel
theorem dX9_dead_25 : decode cX9_dead 25 = .ok (.iadd, 1) := by decide +kernel
theorem dX9_dead_26 : decode cX9_dead 26 = .ok (.iaload, 1) := by decide +kernel
theorem dX9_dead_27 : decode cX9_dead 27 = .ok (.ifCond .ne 7, 3) := by decide +kernel
theorem dX9_dead_30 : decode cX9_dead 30 = .ok (.iconst 1, 1) := by decide +kernel
theorem dX9_dead_31 : decode cX9_dead 31 = .ok (.goto 4, 3) := by decide +kernel
theorem dX9_dead_34 : decode cX9_dead 34 = .ok (.iconst 0, 1) := by decide +kernel
theorem dX9_dead_35 : decode cX9_dead 35 = .ok (.iadd, 1) := by decide +kernel
theorem dX9_dead_36 : decode cX9_dead 36 = .ok (.istore_n 2, 1) := by decide +kernel
theorem dX9_dead_37 : decode cX9_dead 37 = .ok (.iinc 3 1, 3) := by decide +kernel
theorem dX9_dead_40 : decode cX9_dead 40 = .ok (.goto (-36), 3) := by decide +kernel
theorem dX9_dead_43 : decode cX9_dead 43 = .ok (.iload_n 2, 1) := by decide +kernel
theorem dX9_dead_44 : decode cX9_dead 44 = .ok (.ireturn, 1) := by decide +kernel
theorem dX9_reaches_0 : decode cX9_reaches 0 = .ok (.aload_n 0, 1) := by decide +kernel
theorem dX9_reaches_1 : decode cX9_reaches 1 = .ok (.iconst 0, 1) := by decide +kernel
theorem dX9_reaches_2 : decode cX9_reaches 2 = .ok (.putfield 133, 3) := by decide +kernel
theorem dX9_reaches_5 : decode cX9_reaches 5 = .ok (.aload_n 0, 1) := by decide +kernel
theorem dX9_reaches_6 : decode cX9_reaches 6 = .ok (.invokevirtual 397, 3) := by decide +kernel
theorem dX9_reaches_9 : decode cX9_reaches 9 = .ok (.iconst 0, 1) := by decide +kernel
theorem dX9_reaches_10 : decode cX9_reaches 10 = .ok (.istore_n 1, 1) := by decide +kernel
theorem dX9_reaches_11 : decode cX9_reaches 11 = .ok (.iload_n 1, 1) := by decide +kernel
theorem dX9_reaches_12 : decode cX9_reaches 12 = .ok (.aload_n 0, 1) := by decide +kernel
theorem dX9_reaches_13 : decode cX9_reaches 13 = .ok (.getfield 103, 3) := by decide +kernel
theorem dX9_reaches_16 : decode cX9_reaches 16 = .ok (.iconst 0, 1) := by decide +kernel
theorem dX9_reaches_17 : decode cX9_reaches 17 = .ok (.iaload, 1) := by decide +kernel
theorem dX9_reaches_18 : decode cX9_reaches 18 = .ok (.if_icmp .ge 31, 3) := by decide +kernel
theorem dX9_reaches_21 : decode cX9_reaches 21 = .ok (.aload_n 0, 1) := by decide +kernel
theorem dX9_reaches_22 : decode cX9_reaches 22 = .ok (.aload_n 0, 1) := by decide +kernel
theorem dX9_reaches_23 : decode cX9_reaches 23 = .ok (.getfield 85, 3) := by decide +kernel
theorem dX9_reaches_26 : decode cX9_reaches 26 = .ok (.bipush 10, 2) := by decide +kernel
theorem dX9_reaches_28 : decode cX9_reaches 28 = .ok (.iload_n 1, 1) := by decide +kernel
theorem dX9_reaches_29 : decode cX9_reaches 29 = .ok (.imul, 1) := by decide +kernel
theorem dX9_reaches_30 : decode cX9_reaches 30 = .ok (.invokevirtual 357, 3) := by decide +kernel
theorem dX9_reaches_33 : decode cX9_reaches 33 = .ok (.ifCond .eq 10, 3) := by decide +kernel
theorem dX9_reaches_36 : decode cX9_reaches 36 = .ok (.aload_n 0, 1) := by decide +kernel
theorem dX9_reaches_37 : decode cX9_reaches 37 = .ok (.getfield 94, 3) := by decide +kernel
theorem dX9_reaches_40 : decode cX9_reaches 40 = .ok (.iload_n 1, 1) := by decide +kernel
theorem dX9_reaches_41 : decode cX9_reaches 41 = .ok (.iaload, 1) := by decide +kernel
theorem dX9_reaches_42 : decode cX9_reaches 42 = .ok (.ireturn, 1) := by decide +kernel
theorem dX9_reaches_43 : decode cX9_reaches 43 = .ok (.iinc 1 1, 3) := by decide +kernel
theorem dX9_reaches_46 : decode cX9_reaches 46 = .ok (.goto (-35), 3) := by decide +kernel
theorem dX9_reaches_49 : decode cX9_reaches 49 = .ok (.aload_n 0, 1) := by decide +kernel
theorem dX9_reaches_50 : decode cX9_reaches 50 = .ok (.getfield 112, 3) := by decide +kernel
theorem dX9_reaches_53 : decode cX9_reaches 53 = .ok (.iconst 0, 1) := by decide +kernel
theorem dX9_reaches_54 : decode cX9_reaches 54 = .ok (.baload, 1) := by decide +kernel
theorem dX9_reaches_55 : decode cX9_reaches 55 = .ok (.ifCond .eq 8, 3) := by decide +kernel
theorem dX9_reaches_58 : decode cX9_reaches 58 = .ok (.bipush (-2), 2) := by decide +kernel
theorem dX9_reaches_60 : decode cX9_reaches 60 = .ok (.goto 4, 3) := by decide +kernel
theorem dX9_reaches_63 : decode cX9_reaches 63 = .ok (.iconst (-1), 1) := by decide +kernel
theorem dX9_reaches_64 : decode cX9_reaches 64 = .ok (.ireturn, 1) := by decide +kernel
theorem dX9_graph_0 : decode cX9_graph 0 = .ok (.aload_n 0, 1) := by decide +kernel
theorem dX9_graph_1 : decode cX9_graph 1 = .ok (.iconst 0, 1) := by decide +kernel
theorem dX9_graph_2 : decode cX9_graph 2 = .ok (.putfield 133, 3) := by decide +kernel
theorem dX9_graph_5 : decode cX9_graph 5 = .ok (.aload_n 0, 1) := by decide +kernel
theorem dX9_graph_6 : decode cX9_graph 6 = .ok (.invokevirtual 397, 3) := by decide +kernel
theorem dX9_graph_9 : decode cX9_graph 9 = .ok (.iconst 0, 1) := by decide +kernel
theorem dX9_graph_10 : decode cX9_graph 10 = .ok (.istore_n 2, 1) := by decide +kernel
theorem dX9_graph_11 : decode cX9_graph 11 = .ok (.iload_n 1, 1) := by decide +kernel
theorem dX9_graph_12 : decode cX9_graph 12 = .ok (.tableswitch 132 0 4 #[36, 43, 58, 64, 95], 36) := by decide +kernel
theorem dX9_graph_48 : decode cX9_graph 48 = .ok (.aload_n 0, 1) := by decide +kernel
theorem dX9_graph_49 : decode cX9_graph 49 = .ok (.getfield 103, 3) := by decide +kernel
theorem dX9_graph_52 : decode cX9_graph 52 = .ok (.iconst 0, 1) := by decide +kernel
theorem dX9_graph_53 : decode cX9_graph 53 = .ok (.iaload, 1) := by decide +kernel
theorem dX9_graph_54 : decode cX9_graph 54 = .ok (.ireturn, 1) := by decide +kernel
theorem dX9_graph_55 : decode cX9_graph 55 = .ok (.aload_n 0, 1) := by decide +kernel
theorem dX9_graph_56 : decode cX9_graph 56 = .ok (.getfield 112, 3) := by decide +kernel
theorem dX9_graph_59 : decode cX9_graph 59 = .ok (.iconst 0, 1) := by decide +kernel
theorem dX9_graph_60 : decode cX9_graph 60 = .ok (.baload, 1) := by decide +kernel
theorem dX9_graph_61 : decode cX9_graph 61 = .ok (.ifCond .eq 7, 3) := by decide +kernel
theorem dX9_graph_64 : decode cX9_graph 64 = .ok (.iconst 1, 1) := by decide +kernel
theorem dX9_graph_65 : decode cX9_graph 65 = .ok (.goto 4, 3) := by decide +kernel
theorem dX9_graph_68 : decode cX9_graph 68 = .ok (.iconst 0, 1) := by decide +kernel
theorem dX9_graph_69 : decode cX9_graph 69 = .ok (.ireturn, 1) := by decide +kernel
theorem dX9_graph_70 : decode cX9_graph 70 = .ok (.aload_n 0, 1) := by decide +kernel
theorem dX9_graph_71 : decode cX9_graph 71 = .ok (.iconst 0, 1) := by decide +kernel
theorem dX9_graph_72 : decode cX9_graph 72 = .ok (.invokevirtual 400, 3) := by decide +kernel
theorem dX9_graph_75 : decode cX9_graph 75 = .ok (.ireturn, 1) := by decide +kernel
theorem dX9_graph_76 : decode cX9_graph 76 = .ok (.iconst 0, 1) := by decide +kernel
theorem dX9_graph_77 : decode cX9_graph 77 = .ok (.istore_n 3, 1) := by decide +kernel
theorem dX9_graph_78 : decode cX9_graph 78 = .ok (.iload_n 3, 1) := by decide +kernel
theorem dX9_graph_79 : decode cX9_graph 79 = .ok (.aload_n 0, 1) := by decide +kernel
theorem dX9_graph_80 : decode cX9_graph 80 = .ok (.getfield 103, 3) := by decide +kernel
theorem dX9_graph_83 : decode cX9_graph 83 = .ok (.iconst 0, 1) := by decide +kernel
theorem dX9_graph_84 : decode cX9_graph 84 = .ok (.iaload, 1) := by decide +kernel
theorem dX9_graph_85 : decode cX9_graph 85 = .ok (.if_icmp .ge 20, 3) := by decide +kernel
theorem dX9_graph_88 : decode cX9_graph 88 = .ok (.aload_n 0, 1) := by decide +kernel
theorem dX9_graph_89 : decode cX9_graph 89 = .ok (.getfield 97, 3) := by decide +kernel
theorem dX9_graph_92 : decode cX9_graph 92 = .ok (.iload_n 3, 1) := by decide +kernel
theorem dX9_graph_93 : decode cX9_graph 93 = .ok (.iaload, 1) := by decide +kernel
theorem dX9_graph_94 : decode cX9_graph 94 = .ok (.ifCond .ne 5, 3) := by decide +kernel
theorem dX9_graph_97 : decode cX9_graph 97 = .ok (.iload_n 3, 1) := by decide +kernel
theorem dX9_graph_98 : decode cX9_graph 98 = .ok (.ireturn, 1) := by decide +kernel
theorem dX9_graph_99 : decode cX9_graph 99 = .ok (.iinc 3 1, 3) := by decide +kernel
theorem dX9_graph_102 : decode cX9_graph 102 = .ok (.goto (-24), 3) := by decide +kernel
theorem dX9_graph_105 : decode cX9_graph 105 = .ok (.iconst (-1), 1) := by decide +kernel
theorem dX9_graph_106 : decode cX9_graph 106 = .ok (.ireturn, 1) := by decide +kernel
theorem dX9_graph_107 : decode cX9_graph 107 = .ok (.iconst 0, 1) := by decide +kernel
theorem dX9_graph_108 : decode cX9_graph 108 = .ok (.istore_n 3, 1) := by decide +kernel
theorem dX9_graph_109 : decode cX9_graph 109 = .ok (.iload_n 3, 1) := by decide +kernel
theorem dX9_graph_110 : decode cX9_graph 110 = .ok (.aload_n 0, 1) := by decide +kernel
theorem dX9_graph_111 : decode cX9_graph 111 = .ok (.getfield 103, 3) := by decide +kernel
theorem dX9_graph_114 : decode cX9_graph 114 = .ok (.iconst 0, 1) := by decide +kernel
theorem dX9_graph_115 : decode cX9_graph 115 = .ok (.iaload, 1) := by decide +kernel
theorem dX9_graph_116 : decode cX9_graph 116 = .ok (.if_icmp .ge 26, 3) := by decide +kernel
theorem dX9_graph_119 : decode cX9_graph 119 = .ok (.iload_n 2, 1) := by decide +kernel
theorem dX9_graph_120 : decode cX9_graph 120 = .ok (.aload_n 0, 1) := by decide +kernel
theorem dX9_graph_121 : decode cX9_graph 121 = .ok (.getfield 121, 3) := by decide +kernel
theorem dX9_graph_124 : decode cX9_graph 124 = .ok (.iload_n 3, 1) := by decide +kernel
theorem dX9_graph_125 : decode cX9_graph 125 = .ok (.baload, 1) := by decide +kernel
theorem dX9_graph_126 : decode cX9_graph 126 = .ok (.ifCond .eq 7, 3) := by decide +kernel
theorem dX9_graph_129 : decode cX9_graph 129 = .ok (.iconst 1, 1) := by decide +kernel
theorem dX9_graph_130 : decode cX9_graph 130 = .ok (.goto 4, 3) := by decide +kernel
theorem dX9_graph_133 : decode cX9_graph 133 = .ok (.iconst 0, 1) := by decide +kernel
theorem dX9_graph_134 : decode cX9_graph 134 = .ok (.iadd, 1) := by decide +kernel
theorem dX9_graph_135 : decode cX9_graph 135 = .ok (.istore_n 2, 1) := by decide +kernel
theorem dX9_graph_136 : decode cX9_graph 136 = .ok (.iinc 3 1, 3) := by decide +kernel
theorem dX9_graph_139 : decode cX9_graph 139 = .ok (.goto (-30), 3) := by decide +kernel
theorem dX9_graph_142 : decode cX9_graph 142 = .ok (.iload_n 2, 1) := by decide +kernel
theorem dX9_graph_143 : decode cX9_graph 143 = .ok (.ireturn, 1) := by decide +kernel
theorem dX9_graph_144 : decode cX9_graph 144 = .ok (.iconst (-1), 1) := by decide +kernel
theorem dX9_graph_145 : decode cX9_graph 145 = .ok (.ireturn, 1) := by decide +kernel
theorem dX9_isMarking_0 : decode cX9_isMarking 0 = .ok (.aload_n 0, 1) := by decide +kernel
theorem dX9_isMarking_1 : decode cX9_isMarking 1 = .ok (.invokevirtual 397, 3) := by decide +kernel
theorem dX9_isMarking_4 : decode cX9_isMarking 4 = .ok (.iload_n 1, 1) := by decide +kernel
theorem dX9_isMarking_5 : decode cX9_isMarking 5 = .ok (.iconst 0, 1) := by decide +kernel
theorem dX9_isMarking_6 : decode cX9_isMarking 6 = .ok (.aload_n 0, 1) := by decide +kernel
theorem dX9_isMarking_7 : decode cX9_isMarking 7 = .ok (.getfield 103, 3) := by decide +kernel
theorem dX9_isMarking_10 : decode cX9_isMarking 10 = .ok (.iconst 0, 1) := by decide +kernel
theorem dX9_isMarking_11 : decode cX9_isMarking 11 = .ok (.iaload, 1) := by decide +kernel
theorem dX9_isMarking_12 : decode cX9_isMarking 12 = .ok (.iconst 1, 1) := by decide +kernel
theorem dX9_isMarking_13 : decode cX9_isMarking 13 = .ok (.isub, 1) := by decide +kernel
theorem dX9_isMarking_14 : decode cX9_isMarking 14 = .ok (.invokestatic 136, 3) := by decide +kernel
theorem dX9_isMarking_17 : decode cX9_isMarking 17 = .ok (.ireturn, 1) := by decide +kernel
theorem dX9_marking_0 : decode cX9_marking 0 = .ok (.aload_n 0, 1) := by decide +kernel
theorem dX9_marking_1 : decode cX9_marking 1 = .ok (.iconst 0, 1) := by decide +kernel
theorem dX9_marking_2 : decode cX9_marking 2 = .ok (.putfield 133, 3) := by decide +kernel
theorem dX9_marking_5 : decode cX9_marking 5 = .ok (.aload_n 0, 1) := by decide +kernel
theorem dX9_marking_6 : decode cX9_marking 6 = .ok (.iload_n 1, 1) := by decide +kernel
theorem dX9_marking_7 : decode cX9_marking 7 = .ok (.invokevirtual 403, 3) := by decide +kernel
theorem dX9_marking_10 : decode cX9_marking 10 = .ok (.ifCond .eq 25, 3) := by decide +kernel
theorem dX9_marking_13 : decode cX9_marking 13 = .ok (.aload_n 0, 1) := by decide +kernel
theorem dX9_marking_14 : decode cX9_marking 14 = .ok (.iload_n 2, 1) := by decide +kernel
theorem dX9_marking_15 : decode cX9_marking 15 = .ok (.invokevirtual 275, 3) := by decide +kernel
theorem dX9_marking_18 : decode cX9_marking 18 = .ok (.ifCond .eq 17, 3) := by decide +kernel
theorem dX9_marking_21 : decode cX9_marking 21 = .ok (.aload_n 0, 1) := by decide +kernel
theorem dX9_marking_22 : decode cX9_marking 22 = .ok (.getfield 85, 3) := by decide +kernel
theorem dX9_marking_25 : decode cX9_marking 25 = .ok (.bipush 10, 2) := by decide +kernel
theorem dX9_marking_27 : decode cX9_marking 27 = .ok (.iload_n 1, 1) := by decide +kernel
theorem dX9_marking_28 : decode cX9_marking 28 = .ok (.imul, 1) := by decide +kernel
theorem dX9_marking_29 : decode cX9_marking 29 = .ok (.iload_n 2, 1) := by decide +kernel
theorem dX9_marking_30 : decode cX9_marking 30 = .ok (.iadd, 1) := by decide +kernel
theorem dX9_marking_31 : decode cX9_marking 31 = .ok (.iaload, 1) := by decide +kernel
theorem dX9_marking_32 : decode cX9_marking 32 = .ok (.goto 4, 3) := by decide +kernel
theorem dX9_marking_35 : decode cX9_marking 35 = .ok (.iconst (-1), 1) := by decide +kernel
theorem dX9_marking_36 : decode cX9_marking 36 = .ok (.ireturn, 1) := by decide +kernel
theorem dX9_came_0 : decode cX9_came 0 = .ok (.aload_n 0, 1) := by decide +kernel
theorem dX9_came_1 : decode cX9_came 1 = .ok (.iconst 0, 1) := by decide +kernel
theorem dX9_came_2 : decode cX9_came 2 = .ok (.putfield 133, 3) := by decide +kernel
theorem dX9_came_5 : decode cX9_came 5 = .ok (.aload_n 0, 1) := by decide +kernel
theorem dX9_came_6 : decode cX9_came 6 = .ok (.iload_n 1, 1) := by decide +kernel
theorem dX9_came_7 : decode cX9_came 7 = .ok (.invokevirtual 403, 3) := by decide +kernel
theorem dX9_came_10 : decode cX9_came 10 = .ok (.ifCond .eq 12, 3) := by decide +kernel
theorem dX9_came_13 : decode cX9_came 13 = .ok (.iload_n 2, 1) := by decide +kernel
theorem dX9_came_14 : decode cX9_came 14 = .ok (.iconst 0, 1) := by decide +kernel
theorem dX9_came_15 : decode cX9_came 15 = .ok (.iconst 3, 1) := by decide +kernel
theorem dX9_came_16 : decode cX9_came 16 = .ok (.invokestatic 136, 3) := by decide +kernel
theorem dX9_came_19 : decode cX9_came 19 = .ok (.ifCond .ne 5, 3) := by decide +kernel
theorem dX9_came_22 : decode cX9_came 22 = .ok (.iconst (-1), 1) := by decide +kernel
theorem dX9_came_23 : decode cX9_came 23 = .ok (.ireturn, 1) := by decide +kernel
theorem dX9_came_24 : decode cX9_came 24 = .ok (.iload_n 2, 1) := by decide +kernel
theorem dX9_came_25 : decode cX9_came 25 = .ok (.ifCond .ne 12, 3) := by decide +kernel
theorem dX9_came_28 : decode cX9_came 28 = .ok (.aload_n 0, 1) := by decide +kernel
theorem dX9_came_29 : decode cX9_came 29 = .ok (.getfield 88, 3) := by decide +kernel
theorem dX9_came_32 : decode cX9_came 32 = .ok (.iload_n 1, 1) := by decide +kernel
theorem dX9_came_33 : decode cX9_came 33 = .ok (.iaload, 1) := by decide +kernel
theorem dX9_came_34 : decode cX9_came 34 = .ok (.goto 45, 3) := by decide +kernel
theorem dX9_came_37 : decode cX9_came 37 = .ok (.iload_n 2, 1) := by decide +kernel
theorem dX9_came_38 : decode cX9_came 38 = .ok (.iconst 1, 1) := by decide +kernel
theorem dX9_came_39 : decode cX9_came 39 = .ok (.if_icmp .ne 12, 3) := by decide +kernel
theorem dX9_came_42 : decode cX9_came 42 = .ok (.aload_n 0, 1) := by decide +kernel
theorem dX9_came_43 : decode cX9_came 43 = .ok (.getfield 91, 3) := by decide +kernel
theorem dX9_came_46 : decode cX9_came 46 = .ok (.iload_n 1, 1) := by decide +kernel
theorem dX9_came_47 : decode cX9_came 47 = .ok (.iaload, 1) := by decide +kernel
theorem dX9_came_48 : decode cX9_came 48 = .ok (.goto 31, 3) := by decide +kernel
theorem dX9_came_51 : decode cX9_came 51 = .ok (.iload_n 2, 1) := by decide +kernel
theorem dX9_came_52 : decode cX9_came 52 = .ok (.iconst 2, 1) := by decide +kernel
theorem dX9_came_53 : decode cX9_came 53 = .ok (.if_icmp .ne 12, 3) := by decide +kernel
theorem dX9_came_56 : decode cX9_came 56 = .ok (.aload_n 0, 1) := by decide +kernel
theorem dX9_came_57 : decode cX9_came 57 = .ok (.getfield 97, 3) := by decide +kernel
theorem dX9_came_60 : decode cX9_came 60 = .ok (.iload_n 1, 1) := by decide +kernel
theorem dX9_came_61 : decode cX9_came 61 = .ok (.iaload, 1) := by decide +kernel
theorem dX9_came_62 : decode cX9_came 62 = .ok (.goto 17, 3) := by decide +kernel
theorem dX9_came_65 : decode cX9_came 65 = .ok (.aload_n 0, 1) := by decide +kernel
theorem dX9_came_66 : decode cX9_came 66 = .ok (.getfield 121, 3) := by decide +kernel
theorem dX9_came_69 : decode cX9_came 69 = .ok (.iload_n 1, 1) := by decide +kernel
theorem dX9_came_70 : decode cX9_came 70 = .ok (.baload, 1) := by decide +kernel
theorem dX9_came_71 : decode cX9_came 71 = .ok (.ifCond .eq 7, 3) := by decide +kernel
theorem dX9_came_74 : decode cX9_came 74 = .ok (.iconst 1, 1) := by decide +kernel
theorem dX9_came_75 : decode cX9_came 75 = .ok (.goto 4, 3) := by decide +kernel
theorem dX9_came_78 : decode cX9_came 78 = .ok (.iconst 0, 1) := by decide +kernel
theorem dX9_came_79 : decode cX9_came 79 = .ok (.ireturn, 1) := by decide +kernel
theorem dX9_live_0 : decode cX9_live 0 = .ok (.aload_n 0, 1) := by decide +kernel
theorem dX9_live_1 : decode cX9_live 1 = .ok (.iconst 0, 1) := by decide +kernel
theorem dX9_live_2 : decode cX9_live 2 = .ok (.putfield 133, 3) := by decide +kernel
theorem dX9_live_5 : decode cX9_live 5 = .ok (.aload_n 0, 1) := by decide +kernel
theorem dX9_live_6 : decode cX9_live 6 = .ok (.iload_n 1, 1) := by decide +kernel
theorem dX9_live_7 : decode cX9_live 7 = .ok (.invokevirtual 272, 3) := by decide +kernel
theorem dX9_live_10 : decode cX9_live 10 = .ok (.ifCond .ne 5, 3) := by decide +kernel
theorem dX9_live_13 : decode cX9_live 13 = .ok (.iconst (-1), 1) := by decide +kernel
theorem dX9_live_14 : decode cX9_live 14 = .ok (.ireturn, 1) := by decide +kernel
theorem dX9_live_15 : decode cX9_live 15 = .ok (.aload_n 0, 1) := by decide +kernel
theorem dX9_live_16 : decode cX9_live 16 = .ok (.invokevirtual 397, 3) := by decide +kernel
theorem dX9_live_19 : decode cX9_live 19 = .ok (.aload_n 0, 1) := by decide +kernel
theorem dX9_live_20 : decode cX9_live 20 = .ok (.iconst 0, 1) := by decide +kernel
theorem dX9_live_21 : decode cX9_live 21 = .ok (.iload_n 1, 1) := by decide +kernel
theorem dX9_live_22 : decode cX9_live 22 = .ok (.invokevirtual 406, 3) := by decide +kernel
theorem dX9_live_25 : decode cX9_live 25 = .ok (.ifCond .eq 7, 3) := by decide +kernel
theorem dX9_live_28 : decode cX9_live 28 = .ok (.iconst 1, 1) := by decide +kernel
theorem dX9_live_29 : decode cX9_live 29 = .ok (.goto 4, 3) := by decide +kernel
theorem dX9_live_32 : decode cX9_live 32 = .ok (.iconst 0, 1) := by decide +kernel
theorem dX9_live_33 : decode cX9_live 33 = .ok (.ireturn, 1) := by decide +kernel
theorem dX9_most_0 : decode cX9_most 0 = .ok (.aload_n 0, 1) := by decide +kernel
theorem dX9_most_1 : decode cX9_most 1 = .ok (.iconst 0, 1) := by decide +kernel
theorem dX9_most_2 : decode cX9_most 2 = .ok (.putfield 133, 3) := by decide +kernel
theorem dX9_most_5 : decode cX9_most 5 = .ok (.aload_n 0, 1) := by decide +kernel
theorem dX9_most_6 : decode cX9_most 6 = .ok (.iload_n 1, 1) := by decide +kernel
theorem dX9_most_7 : decode cX9_most 7 = .ok (.invokevirtual 275, 3) := by decide +kernel
theorem dX9_most_10 : decode cX9_most 10 = .ok (.ifCond .ne 5, 3) := by decide +kernel
theorem dX9_most_13 : decode cX9_most 13 = .ok (.iconst (-1), 1) := by decide +kernel
theorem dX9_most_14 : decode cX9_most 14 = .ok (.ireturn, 1) := by decide +kernel
theorem dX9_most_15 : decode cX9_most 15 = .ok (.aload_n 0, 1) := by decide +kernel
theorem dX9_most_16 : decode cX9_most 16 = .ok (.invokevirtual 397, 3) := by decide +kernel
theorem dX9_most_19 : decode cX9_most 19 = .ok (.iconst 0, 1) := by decide +kernel
theorem dX9_most_20 : decode cX9_most 20 = .ok (.istore_n 2, 1) := by decide +kernel
theorem dX9_most_21 : decode cX9_most 21 = .ok (.iconst 0, 1) := by decide +kernel
theorem dX9_most_22 : decode cX9_most 22 = .ok (.istore_n 3, 1) := by decide +kernel
theorem dX9_most_23 : decode cX9_most 23 = .ok (.iload_n 3, 1) := by decide +kernel
theorem dX9_most_24 : decode cX9_most 24 = .ok (.aload_n 0, 1) := by decide +kernel
theorem dX9_most_25 : decode cX9_most 25 = .ok (.getfield 103, 3) := by decide +kernel
theorem dX9_most_28 : decode cX9_most 28 = .ok (.iconst 0, 1) := by decide +kernel
theorem dX9_most_29 : decode cX9_most 29 = .ok (.iaload, 1) := by decide +kernel
theorem dX9_most_30 : decode cX9_most 30 = .ok (.if_icmp .ge 25, 3) := by decide +kernel
theorem dX9_most_33 : decode cX9_most 33 = .ok (.iload_n 2, 1) := by decide +kernel
theorem dX9_most_34 : decode cX9_most 34 = .ok (.aload_n 0, 1) := by decide +kernel
theorem dX9_most_35 : decode cX9_most 35 = .ok (.getfield 85, 3) := by decide +kernel
theorem dX9_most_38 : decode cX9_most 38 = .ok (.bipush 10, 2) := by decide +kernel
theorem dX9_most_40 : decode cX9_most 40 = .ok (.iload_n 3, 1) := by decide +kernel
theorem dX9_most_41 : decode cX9_most 41 = .ok (.imul, 1) := by decide +kernel
theorem dX9_most_42 : decode cX9_most 42 = .ok (.iload_n 1, 1) := by decide +kernel
theorem dX9_most_43 : decode cX9_most 43 = .ok (.iadd, 1) := by decide +kernel
theorem dX9_most_44 : decode cX9_most 44 = .ok (.iaload, 1) := by decide +kernel
theorem dX9_most_45 : decode cX9_most 45 = .ok (.invokestatic 409, 3) := by decide +kernel
theorem dX9_most_48 : decode cX9_most 48 = .ok (.istore_n 2, 1) := by decide +kernel
theorem dX9_most_49 : decode cX9_most 49 = .ok (.iinc 3 1, 3) := by decide +kernel
theorem dX9_most_52 : decode cX9_most 52 = .ok (.goto (-29), 3) := by decide +kernel
theorem dX9_most_55 : decode cX9_most 55 = .ok (.iload_n 2, 1) := by decide +kernel
theorem dX9_most_56 : decode cX9_most 56 = .ok (.ireturn, 1) := by decide +kernel
theorem dX9_isThere_0 : decode cX9_isThere 0 = .ok (.aload_n 0, 1) := by decide +kernel
theorem dX9_isThere_1 : decode cX9_isThere 1 = .ok (.getfield 19, 3) := by decide +kernel
theorem dX9_isThere_4 : decode cX9_isThere 4 = .ok (.iconst 1, 1) := by decide +kernel
theorem dX9_isThere_5 : decode cX9_isThere 5 = .ok (.iaload, 1) := by decide +kernel
theorem dX9_isThere_6 : decode cX9_isThere 6 = .ok (.iload_n 1, 1) := by decide +kernel
theorem dX9_isThere_7 : decode cX9_isThere 7 = .ok (.invokestatic 140, 3) := by decide +kernel
theorem dX9_isThere_10 : decode cX9_isThere 10 = .ok (.ireturn, 1) := by decide +kernel
theorem dX9_isLeft_0 : decode cX9_isLeft 0 = .ok (.aload_n 0, 1) := by decide +kernel
theorem dX9_isLeft_1 : decode cX9_isLeft 1 = .ok (.getfield 22, 3) := by decide +kernel
theorem dX9_isLeft_4 : decode cX9_isLeft 4 = .ok (.iconst 1, 1) := by decide +kernel
theorem dX9_isLeft_5 : decode cX9_isLeft 5 = .ok (.iaload, 1) := by decide +kernel
theorem dX9_isLeft_6 : decode cX9_isLeft 6 = .ok (.iload_n 1, 1) := by decide +kernel
theorem dX9_isLeft_7 : decode cX9_isLeft 7 = .ok (.invokestatic 140, 3) := by decide +kernel
theorem dX9_isLeft_10 : decode cX9_isLeft 10 = .ok (.ireturn, 1) := by decide +kernel
theorem dX9_taken_0 : decode cX9_taken 0 = .ok (.aload_n 0, 1) := by decide +kernel
theorem dX9_taken_1 : decode cX9_taken 1 = .ok (.getfield 7, 3) := by decide +kernel
theorem dX9_taken_4 : decode cX9_taken 4 = .ok (.aload_n 0, 1) := by decide +kernel
theorem dX9_taken_5 : decode cX9_taken 5 = .ok (.iconst 1, 1) := by decide +kernel
theorem dX9_taken_6 : decode cX9_taken 6 = .ok (.iload_n 1, 1) := by decide +kernel
theorem dX9_taken_7 : decode cX9_taken 7 = .ok (.iload_n 2, 1) := by decide +kernel
theorem dX9_taken_8 : decode cX9_taken 8 = .ok (.invokevirtual 144, 3) := by decide +kernel
theorem dX9_taken_11 : decode cX9_taken 11 = .ok (.iaload, 1) := by decide +kernel
theorem dX9_taken_12 : decode cX9_taken 12 = .ok (.ireturn, 1) := by decide +kernel
theorem dX9_given_0 : decode cX9_given 0 = .ok (.aload_n 0, 1) := by decide +kernel
theorem dX9_given_1 : decode cX9_given 1 = .ok (.getfield 13, 3) := by decide +kernel
theorem dX9_given_4 : decode cX9_given 4 = .ok (.aload_n 0, 1) := by decide +kernel
theorem dX9_given_5 : decode cX9_given 5 = .ok (.iconst 1, 1) := by decide +kernel
theorem dX9_given_6 : decode cX9_given 6 = .ok (.iload_n 1, 1) := by decide +kernel
theorem dX9_given_7 : decode cX9_given 7 = .ok (.iload_n 2, 1) := by decide +kernel
theorem dX9_given_8 : decode cX9_given 8 = .ok (.invokevirtual 144, 3) := by decide +kernel
theorem dX9_given_11 : decode cX9_given 11 = .ok (.iaload, 1) := by decide +kernel
theorem dX9_given_12 : decode cX9_given 12 = .ok (.ireturn, 1) := by decide +kernel
theorem dX9_notes_0 : decode cX9_notes 0 = .ok (.aload_n 0, 1) := by decide +kernel
theorem dX9_notes_1 : decode cX9_notes 1 = .ok (.getfield 124, 3) := by decide +kernel
theorem dX9_notes_4 : decode cX9_notes 4 = .ok (.aload_n 0, 1) := by decide +kernel
theorem dX9_notes_5 : decode cX9_notes 5 = .ok (.getfield 412, 3) := by decide +kernel
theorem dX9_notes_8 : decode cX9_notes 8 = .ok (.iload_n 1, 1) := by decide +kernel
theorem dX9_notes_9 : decode cX9_notes 9 = .ok (.iastore, 1) := by decide +kernel
theorem dX9_notes_10 : decode cX9_notes 10 = .ok (.aload_n 0, 1) := by decide +kernel
theorem dX9_notes_11 : decode cX9_notes 11 = .ok (.getfield 127, 3) := by decide +kernel
theorem dX9_notes_14 : decode cX9_notes 14 = .ok (.aload_n 0, 1) := by decide +kernel
theorem dX9_notes_15 : decode cX9_notes 15 = .ok (.getfield 412, 3) := by decide +kernel
theorem dX9_notes_18 : decode cX9_notes 18 = .ok (.iload_n 2, 1) := by decide +kernel
theorem dX9_notes_19 : decode cX9_notes 19 = .ok (.iastore, 1) := by decide +kernel
theorem dX9_notes_20 : decode cX9_notes 20 = .ok (.aload_n 0, 1) := by decide +kernel
theorem dX9_notes_21 : decode cX9_notes 21 = .ok (.getfield 130, 3) := by decide +kernel
theorem dX9_notes_24 : decode cX9_notes 24 = .ok (.aload_n 0, 1) := by decide +kernel
theorem dX9_notes_25 : decode cX9_notes 25 = .ok (.getfield 412, 3) := by decide +kernel
theorem dX9_notes_28 : decode cX9_notes 28 = .ok (.iload_n 3, 1) := by decide +kernel
theorem dX9_notes_29 : decode cX9_notes 29 = .ok (.iastore, 1) := by decide +kernel
theorem dX9_notes_30 : decode cX9_notes 30 = .ok (.aload_n 0, 1) := by decide +kernel
theorem dX9_notes_31 : decode cX9_notes 31 = .ok (.dup, 1) := by decide +kernel
theorem dX9_notes_32 : decode cX9_notes 32 = .ok (.getfield 412, 3) := by decide +kernel
theorem dX9_notes_35 : decode cX9_notes 35 = .ok (.iconst 1, 1) := by decide +kernel
theorem dX9_notes_36 : decode cX9_notes 36 = .ok (.iadd, 1) := by decide +kernel
theorem dX9_notes_37 : decode cX9_notes 37 = .ok (.putfield 412, 3) := by decide +kernel
theorem dX9_notes_40 : decode cX9_notes 40 = .ok (.iload_n 2, 1) := by decide +kernel
theorem dX9_notes_41 : decode cX9_notes 41 = .ok (.ifCond .lt 71, 3) := by decide +kernel
theorem dX9_notes_44 : decode cX9_notes 44 = .ok (.aload_n 0, 1) := by decide +kernel
theorem dX9_notes_45 : decode cX9_notes 45 = .ok (.getfield 19, 3) := by decide +kernel
theorem dX9_notes_48 : decode cX9_notes 48 = .ok (.iconst 1, 1) := by decide +kernel
theorem dX9_notes_49 : decode cX9_notes 49 = .ok (.dup2, 1) := by decide +kernel
theorem dX9_notes_50 : decode cX9_notes 50 = .ok (.iaload, 1) := by decide +kernel
theorem dX9_notes_51 : decode cX9_notes 51 = .ok (.iconst 1, 1) := by decide +kernel
theorem dX9_notes_52 : decode cX9_notes 52 = .ok (.iload_n 2, 1) := by decide +kernel
theorem dX9_notes_53 : decode cX9_notes 53 = .ok (.ishl, 1) := by decide +kernel
theorem dX9_notes_54 : decode cX9_notes 54 = .ok (.iconst (-1), 1) := by decide +kernel
theorem dX9_notes_55 : decode cX9_notes 55 = .ok (.ixor, 1) := by decide +kernel
theorem dX9_notes_56 : decode cX9_notes 56 = .ok (.iand, 1) := by decide +kernel
theorem dX9_notes_57 : decode cX9_notes 57 = .ok (.iastore, 1) := by decide +kernel
theorem dX9_notes_58 : decode cX9_notes 58 = .ok (.aload_n 0, 1) := by decide +kernel
theorem dX9_notes_59 : decode cX9_notes 59 = .ok (.getfield 16, 3) := by decide +kernel
theorem dX9_notes_62 : decode cX9_notes 62 = .ok (.bipush 10, 2) := by decide +kernel
theorem dX9_notes_64 : decode cX9_notes 64 = .ok (.iload_n 2, 1) := by decide +kernel
theorem dX9_notes_65 : decode cX9_notes 65 = .ok (.iadd, 1) := by decide +kernel
theorem dX9_notes_66 : decode cX9_notes 66 = .ok (.iconst 0, 1) := by decide +kernel
theorem dX9_notes_67 : decode cX9_notes 67 = .ok (.iastore, 1) := by decide +kernel
theorem dX9_notes_68 : decode cX9_notes 68 = .ok (.iconst 0, 1) := by decide +kernel
theorem dX9_notes_69 : decode cX9_notes 69 = .ok (.istore 4, 2) := by decide +kernel
theorem dX9_notes_71 : decode cX9_notes 71 = .ok (.iload 4, 2) := by decide +kernel
theorem dX9_notes_73 : decode cX9_notes 73 = .ok (.bipush 8, 2) := by decide +kernel
theorem dX9_notes_75 : decode cX9_notes 75 = .ok (.if_icmp .ge 37, 3) := by decide +kernel
theorem dX9_notes_78 : decode cX9_notes 78 = .ok (.aload_n 0, 1) := by decide +kernel
theorem dX9_notes_79 : decode cX9_notes 79 = .ok (.getfield 7, 3) := by decide +kernel
theorem dX9_notes_82 : decode cX9_notes 82 = .ok (.aload_n 0, 1) := by decide +kernel
theorem dX9_notes_83 : decode cX9_notes 83 = .ok (.iconst 1, 1) := by decide +kernel
theorem dX9_notes_84 : decode cX9_notes 84 = .ok (.iload 4, 2) := by decide +kernel
theorem dX9_notes_86 : decode cX9_notes 86 = .ok (.iload_n 2, 1) := by decide +kernel
theorem dX9_notes_87 : decode cX9_notes 87 = .ok (.invokevirtual 144, 3) := by decide +kernel
theorem dX9_notes_90 : decode cX9_notes 90 = .ok (.iconst 0, 1) := by decide +kernel
theorem dX9_notes_91 : decode cX9_notes 91 = .ok (.iastore, 1) := by decide +kernel
theorem dX9_notes_92 : decode cX9_notes 92 = .ok (.aload_n 0, 1) := by decide +kernel
theorem dX9_notes_93 : decode cX9_notes 93 = .ok (.getfield 13, 3) := by decide +kernel
theorem dX9_notes_96 : decode cX9_notes 96 = .ok (.aload_n 0, 1) := by decide +kernel
theorem dX9_notes_97 : decode cX9_notes 97 = .ok (.iconst 1, 1) := by decide +kernel
theorem dX9_notes_98 : decode cX9_notes 98 = .ok (.iload 4, 2) := by decide +kernel
theorem dX9_notes_100 : decode cX9_notes 100 = .ok (.iload_n 2, 1) := by decide +kernel
theorem dX9_notes_101 : decode cX9_notes 101 = .ok (.invokevirtual 144, 3) := by decide +kernel
theorem dX9_notes_104 : decode cX9_notes 104 = .ok (.iconst 0, 1) := by decide +kernel
theorem dX9_notes_105 : decode cX9_notes 105 = .ok (.iastore, 1) := by decide +kernel
theorem dX9_notes_106 : decode cX9_notes 106 = .ok (.iinc 4 1, 3) := by decide +kernel
theorem dX9_notes_109 : decode cX9_notes 109 = .ok (.goto (-38), 3) := by decide +kernel
theorem dX9_notes_112 : decode cX9_notes 112 = .ok (.iload_n 3, 1) := by decide +kernel
theorem dX9_notes_113 : decode cX9_notes 113 = .ok (.ifCond .lt 61, 3) := by decide +kernel
theorem dX9_notes_116 : decode cX9_notes 116 = .ok (.aload_n 0, 1) := by decide +kernel
theorem dX9_notes_117 : decode cX9_notes 117 = .ok (.getfield 22, 3) := by decide +kernel
theorem dX9_notes_120 : decode cX9_notes 120 = .ok (.iconst 1, 1) := by decide +kernel
theorem dX9_notes_121 : decode cX9_notes 121 = .ok (.dup2, 1) := by decide +kernel
theorem dX9_notes_122 : decode cX9_notes 122 = .ok (.iaload, 1) := by decide +kernel
theorem dX9_notes_123 : decode cX9_notes 123 = .ok (.iconst 1, 1) := by decide +kernel
theorem dX9_notes_124 : decode cX9_notes 124 = .ok (.iload_n 3, 1) := by decide +kernel
theorem dX9_notes_125 : decode cX9_notes 125 = .ok (.ishl, 1) := by decide +kernel
theorem dX9_notes_126 : decode cX9_notes 126 = .ok (.iconst (-1), 1) := by decide +kernel
theorem dX9_notes_127 : decode cX9_notes 127 = .ok (.ixor, 1) := by decide +kernel
theorem dX9_notes_128 : decode cX9_notes 128 = .ok (.iand, 1) := by decide +kernel
theorem dX9_notes_129 : decode cX9_notes 129 = .ok (.iastore, 1) := by decide +kernel
theorem dX9_notes_130 : decode cX9_notes 130 = .ok (.iconst 0, 1) := by decide +kernel
theorem dX9_notes_131 : decode cX9_notes 131 = .ok (.istore 4, 2) := by decide +kernel
theorem dX9_notes_133 : decode cX9_notes 133 = .ok (.iload 4, 2) := by decide +kernel
theorem dX9_notes_135 : decode cX9_notes 135 = .ok (.bipush 10, 2) := by decide +kernel
theorem dX9_notes_137 : decode cX9_notes 137 = .ok (.if_icmp .ge 37, 3) := by decide +kernel
theorem dX9_notes_140 : decode cX9_notes 140 = .ok (.aload_n 0, 1) := by decide +kernel
theorem dX9_notes_141 : decode cX9_notes 141 = .ok (.getfield 7, 3) := by decide +kernel
theorem dX9_notes_144 : decode cX9_notes 144 = .ok (.aload_n 0, 1) := by decide +kernel
theorem dX9_notes_145 : decode cX9_notes 145 = .ok (.iconst 1, 1) := by decide +kernel
theorem dX9_notes_146 : decode cX9_notes 146 = .ok (.iload_n 3, 1) := by decide +kernel
theorem dX9_notes_147 : decode cX9_notes 147 = .ok (.iload 4, 2) := by decide +kernel
theorem dX9_notes_149 : decode cX9_notes 149 = .ok (.invokevirtual 144, 3) := by decide +kernel
theorem dX9_notes_152 : decode cX9_notes 152 = .ok (.iconst 0, 1) := by decide +kernel
theorem dX9_notes_153 : decode cX9_notes 153 = .ok (.iastore, 1) := by decide +kernel
theorem dX9_notes_154 : decode cX9_notes 154 = .ok (.aload_n 0, 1) := by decide +kernel
theorem dX9_notes_155 : decode cX9_notes 155 = .ok (.getfield 13, 3) := by decide +kernel
theorem dX9_notes_158 : decode cX9_notes 158 = .ok (.aload_n 0, 1) := by decide +kernel
theorem dX9_notes_159 : decode cX9_notes 159 = .ok (.iconst 1, 1) := by decide +kernel
theorem dX9_notes_160 : decode cX9_notes 160 = .ok (.iload_n 3, 1) := by decide +kernel
theorem dX9_notes_161 : decode cX9_notes 161 = .ok (.iload 4, 2) := by decide +kernel
theorem dX9_notes_163 : decode cX9_notes 163 = .ok (.invokevirtual 144, 3) := by decide +kernel
theorem dX9_notes_166 : decode cX9_notes 166 = .ok (.iconst 0, 1) := by decide +kernel
theorem dX9_notes_167 : decode cX9_notes 167 = .ok (.iastore, 1) := by decide +kernel
theorem dX9_notes_168 : decode cX9_notes 168 = .ok (.iinc 4 1, 3) := by decide +kernel
theorem dX9_notes_171 : decode cX9_notes 171 = .ok (.goto (-38), 3) := by decide +kernel
theorem dX9_notes_174 : decode cX9_notes 174 = .ok (.return_, 1) := by decide +kernel
theorem dX9_arePlacesAlike_0 : decode cX9_arePlacesAlike 0 = .ok (.iconst 0, 1) := by decide +kernel
theorem dX9_arePlacesAlike_1 : decode cX9_arePlacesAlike 1 = .ok (.istore_n 3, 1) := by decide +kernel
theorem dX9_arePlacesAlike_2 : decode cX9_arePlacesAlike 2 = .ok (.iload_n 3, 1) := by decide +kernel
theorem dX9_arePlacesAlike_3 : decode cX9_arePlacesAlike 3 = .ok (.bipush 8, 2) := by decide +kernel
theorem dX9_arePlacesAlike_5 : decode cX9_arePlacesAlike 5 = .ok (.if_icmp .ge 41, 3) := by decide +kernel
theorem dX9_arePlacesAlike_8 : decode cX9_arePlacesAlike 8 = .ok (.aload_n 0, 1) := by decide +kernel
theorem dX9_arePlacesAlike_9 : decode cX9_arePlacesAlike 9 = .ok (.iload_n 3, 1) := by decide +kernel
theorem dX9_arePlacesAlike_10 : decode cX9_arePlacesAlike 10 = .ok (.iload_n 1, 1) := by decide +kernel
theorem dX9_arePlacesAlike_11 : decode cX9_arePlacesAlike 11 = .ok (.invokevirtual 415, 3) := by decide +kernel
theorem dX9_arePlacesAlike_14 : decode cX9_arePlacesAlike 14 = .ok (.aload_n 0, 1) := by decide +kernel
theorem dX9_arePlacesAlike_15 : decode cX9_arePlacesAlike 15 = .ok (.iload_n 3, 1) := by decide +kernel
theorem dX9_arePlacesAlike_16 : decode cX9_arePlacesAlike 16 = .ok (.iload_n 2, 1) := by decide +kernel
theorem dX9_arePlacesAlike_17 : decode cX9_arePlacesAlike 17 = .ok (.invokevirtual 415, 3) := by decide +kernel
theorem dX9_arePlacesAlike_20 : decode cX9_arePlacesAlike 20 = .ok (.if_icmp .ne 18, 3) := by decide +kernel
theorem dX9_arePlacesAlike_23 : decode cX9_arePlacesAlike 23 = .ok (.aload_n 0, 1) := by decide +kernel
theorem dX9_arePlacesAlike_24 : decode cX9_arePlacesAlike 24 = .ok (.iload_n 3, 1) := by decide +kernel
theorem dX9_arePlacesAlike_25 : decode cX9_arePlacesAlike 25 = .ok (.iload_n 1, 1) := by decide +kernel
theorem dX9_arePlacesAlike_26 : decode cX9_arePlacesAlike 26 = .ok (.invokevirtual 418, 3) := by decide +kernel
theorem dX9_arePlacesAlike_29 : decode cX9_arePlacesAlike 29 = .ok (.aload_n 0, 1) := by decide +kernel
theorem dX9_arePlacesAlike_30 : decode cX9_arePlacesAlike 30 = .ok (.iload_n 3, 1) := by decide +kernel
theorem dX9_arePlacesAlike_31 : decode cX9_arePlacesAlike 31 = .ok (.iload_n 2, 1) := by decide +kernel
theorem dX9_arePlacesAlike_32 : decode cX9_arePlacesAlike 32 = .ok (.invokevirtual 418, 3) := by decide +kernel
theorem dX9_arePlacesAlike_35 : decode cX9_arePlacesAlike 35 = .ok (.if_icmp .eq 5, 3) := by decide +kernel
theorem dX9_arePlacesAlike_38 : decode cX9_arePlacesAlike 38 = .ok (.iconst 0, 1) := by decide +kernel
theorem dX9_arePlacesAlike_39 : decode cX9_arePlacesAlike 39 = .ok (.ireturn, 1) := by decide +kernel
theorem dX9_arePlacesAlike_40 : decode cX9_arePlacesAlike 40 = .ok (.iinc 3 1, 3) := by decide +kernel
theorem dX9_arePlacesAlike_43 : decode cX9_arePlacesAlike 43 = .ok (.goto (-41), 3) := by decide +kernel
theorem dX9_arePlacesAlike_46 : decode cX9_arePlacesAlike 46 = .ok (.iconst 1, 1) := by decide +kernel
theorem dX9_arePlacesAlike_47 : decode cX9_arePlacesAlike 47 = .ok (.ireturn, 1) := by decide +kernel
theorem dX9_areStepsAlike_0 : decode cX9_areStepsAlike 0 = .ok (.iconst 0, 1) := by decide +kernel
theorem dX9_areStepsAlike_1 : decode cX9_areStepsAlike 1 = .ok (.istore_n 3, 1) := by decide +kernel
theorem dX9_areStepsAlike_2 : decode cX9_areStepsAlike 2 = .ok (.iload_n 3, 1) := by decide +kernel
theorem dX9_areStepsAlike_3 : decode cX9_areStepsAlike 3 = .ok (.bipush 10, 2) := by decide +kernel
theorem dX9_areStepsAlike_5 : decode cX9_areStepsAlike 5 = .ok (.if_icmp .ge 41, 3) := by decide +kernel
theorem dX9_areStepsAlike_8 : decode cX9_areStepsAlike 8 = .ok (.aload_n 0, 1) := by decide +kernel
theorem dX9_areStepsAlike_9 : decode cX9_areStepsAlike 9 = .ok (.iload_n 1, 1) := by decide +kernel
theorem dX9_areStepsAlike_10 : decode cX9_areStepsAlike 10 = .ok (.iload_n 3, 1) := by decide +kernel
theorem dX9_areStepsAlike_11 : decode cX9_areStepsAlike 11 = .ok (.invokevirtual 415, 3) := by decide +kernel
theorem dX9_areStepsAlike_14 : decode cX9_areStepsAlike 14 = .ok (.aload_n 0, 1) := by decide +kernel
theorem dX9_areStepsAlike_15 : decode cX9_areStepsAlike 15 = .ok (.iload_n 2, 1) := by decide +kernel
theorem dX9_areStepsAlike_16 : decode cX9_areStepsAlike 16 = .ok (.iload_n 3, 1) := by decide +kernel
theorem dX9_areStepsAlike_17 : decode cX9_areStepsAlike 17 = .ok (.invokevirtual 415, 3) := by decide +kernel
theorem dX9_areStepsAlike_20 : decode cX9_areStepsAlike 20 = .ok (.if_icmp .ne 18, 3) := by decide +kernel
theorem dX9_areStepsAlike_23 : decode cX9_areStepsAlike 23 = .ok (.aload_n 0, 1) := by decide +kernel
theorem dX9_areStepsAlike_24 : decode cX9_areStepsAlike 24 = .ok (.iload_n 1, 1) := by decide +kernel
theorem dX9_areStepsAlike_25 : decode cX9_areStepsAlike 25 = .ok (.iload_n 3, 1) := by decide +kernel
theorem dX9_areStepsAlike_26 : decode cX9_areStepsAlike 26 = .ok (.invokevirtual 418, 3) := by decide +kernel
theorem dX9_areStepsAlike_29 : decode cX9_areStepsAlike 29 = .ok (.aload_n 0, 1) := by decide +kernel
theorem dX9_areStepsAlike_30 : decode cX9_areStepsAlike 30 = .ok (.iload_n 2, 1) := by decide +kernel
theorem dX9_areStepsAlike_31 : decode cX9_areStepsAlike 31 = .ok (.iload_n 3, 1) := by decide +kernel
theorem dX9_areStepsAlike_32 : decode cX9_areStepsAlike 32 = .ok (.invokevirtual 418, 3) := by decide +kernel
theorem dX9_areStepsAlike_35 : decode cX9_areStepsAlike 35 = .ok (.if_icmp .eq 5, 3) := by decide +kernel
theorem dX9_areStepsAlike_38 : decode cX9_areStepsAlike 38 = .ok (.iconst 0, 1) := by decide +kernel
theorem dX9_areStepsAlike_39 : decode cX9_areStepsAlike 39 = .ok (.ireturn, 1) := by decide +kernel
theorem dX9_areStepsAlike_40 : decode cX9_areStepsAlike 40 = .ok (.iinc 3 1, 3) := by decide +kernel
theorem dX9_areStepsAlike_43 : decode cX9_areStepsAlike 43 = .ok (.goto (-41), 3) := by decide +kernel
theorem dX9_areStepsAlike_46 : decode cX9_areStepsAlike 46 = .ok (.iconst 1, 1) := by decide +kernel
theorem dX9_areStepsAlike_47 : decode cX9_areStepsAlike 47 = .ok (.ireturn, 1) := by decide +kernel
theorem dX9_fitsOne_0 : decode cX9_fitsOne 0 = .ok (.iconst 0, 1) := by decide +kernel
theorem dX9_fitsOne_1 : decode cX9_fitsOne 1 = .ok (.istore_n 1, 1) := by decide +kernel
theorem dX9_fitsOne_2 : decode cX9_fitsOne 2 = .ok (.iload_n 1, 1) := by decide +kernel
theorem dX9_fitsOne_3 : decode cX9_fitsOne 3 = .ok (.bipush 10, 2) := by decide +kernel
theorem dX9_fitsOne_5 : decode cX9_fitsOne 5 = .ok (.if_icmp .ge 80, 3) := by decide +kernel
theorem dX9_fitsOne_8 : decode cX9_fitsOne 8 = .ok (.iload_n 1, 1) := by decide +kernel
theorem dX9_fitsOne_9 : decode cX9_fitsOne 9 = .ok (.iconst 1, 1) := by decide +kernel
theorem dX9_fitsOne_10 : decode cX9_fitsOne 10 = .ok (.iadd, 1) := by decide +kernel
theorem dX9_fitsOne_11 : decode cX9_fitsOne 11 = .ok (.istore_n 2, 1) := by decide +kernel
theorem dX9_fitsOne_12 : decode cX9_fitsOne 12 = .ok (.iload_n 2, 1) := by decide +kernel
theorem dX9_fitsOne_13 : decode cX9_fitsOne 13 = .ok (.bipush 10, 2) := by decide +kernel
theorem dX9_fitsOne_15 : decode cX9_fitsOne 15 = .ok (.if_icmp .ge 64, 3) := by decide +kernel
theorem dX9_fitsOne_18 : decode cX9_fitsOne 18 = .ok (.aload_n 0, 1) := by decide +kernel
theorem dX9_fitsOne_19 : decode cX9_fitsOne 19 = .ok (.iload_n 1, 1) := by decide +kernel
theorem dX9_fitsOne_20 : decode cX9_fitsOne 20 = .ok (.invokevirtual 421, 3) := by decide +kernel
theorem dX9_fitsOne_23 : decode cX9_fitsOne 23 = .ok (.ifCond .eq 50, 3) := by decide +kernel
theorem dX9_fitsOne_26 : decode cX9_fitsOne 26 = .ok (.aload_n 0, 1) := by decide +kernel
theorem dX9_fitsOne_27 : decode cX9_fitsOne 27 = .ok (.iload_n 2, 1) := by decide +kernel
theorem dX9_fitsOne_28 : decode cX9_fitsOne 28 = .ok (.invokevirtual 421, 3) := by decide +kernel
theorem dX9_fitsOne_31 : decode cX9_fitsOne 31 = .ok (.ifCond .eq 42, 3) := by decide +kernel
theorem dX9_fitsOne_34 : decode cX9_fitsOne 34 = .ok (.aload_n 0, 1) := by decide +kernel
theorem dX9_fitsOne_35 : decode cX9_fitsOne 35 = .ok (.getfield 16, 3) := by decide +kernel
theorem dX9_fitsOne_38 : decode cX9_fitsOne 38 = .ok (.bipush 10, 2) := by decide +kernel
theorem dX9_fitsOne_40 : decode cX9_fitsOne 40 = .ok (.iload_n 1, 1) := by decide +kernel
theorem dX9_fitsOne_41 : decode cX9_fitsOne 41 = .ok (.iadd, 1) := by decide +kernel
theorem dX9_fitsOne_42 : decode cX9_fitsOne 42 = .ok (.iaload, 1) := by decide +kernel
theorem dX9_fitsOne_43 : decode cX9_fitsOne 43 = .ok (.aload_n 0, 1) := by decide +kernel
theorem dX9_fitsOne_44 : decode cX9_fitsOne 44 = .ok (.getfield 16, 3) := by decide +kernel
theorem dX9_fitsOne_47 : decode cX9_fitsOne 47 = .ok (.bipush 10, 2) := by decide +kernel
theorem dX9_fitsOne_49 : decode cX9_fitsOne 49 = .ok (.iload_n 2, 1) := by decide +kernel
theorem dX9_fitsOne_50 : decode cX9_fitsOne 50 = .ok (.iadd, 1) := by decide +kernel
theorem dX9_fitsOne_51 : decode cX9_fitsOne 51 = .ok (.iaload, 1) := by decide +kernel
theorem dX9_fitsOne_52 : decode cX9_fitsOne 52 = .ok (.if_icmp .gt 21, 3) := by decide +kernel
theorem dX9_fitsOne_55 : decode cX9_fitsOne 55 = .ok (.aload_n 0, 1) := by decide +kernel
theorem dX9_fitsOne_56 : decode cX9_fitsOne 56 = .ok (.iload_n 1, 1) := by decide +kernel
theorem dX9_fitsOne_57 : decode cX9_fitsOne 57 = .ok (.iload_n 2, 1) := by decide +kernel
theorem dX9_fitsOne_58 : decode cX9_fitsOne 58 = .ok (.invokevirtual 424, 3) := by decide +kernel
theorem dX9_fitsOne_61 : decode cX9_fitsOne 61 = .ok (.ifCond .eq 12, 3) := by decide +kernel
theorem dX9_fitsOne_64 : decode cX9_fitsOne 64 = .ok (.aload_n 0, 1) := by decide +kernel
theorem dX9_fitsOne_65 : decode cX9_fitsOne 65 = .ok (.iconst 1, 1) := by decide +kernel
theorem dX9_fitsOne_66 : decode cX9_fitsOne 66 = .ok (.iload_n 2, 1) := by decide +kernel
theorem dX9_fitsOne_67 : decode cX9_fitsOne 67 = .ok (.iconst (-1), 1) := by decide +kernel
theorem dX9_fitsOne_68 : decode cX9_fitsOne 68 = .ok (.invokevirtual 427, 3) := by decide +kernel
theorem dX9_fitsOne_71 : decode cX9_fitsOne 71 = .ok (.iconst 1, 1) := by decide +kernel
theorem dX9_fitsOne_72 : decode cX9_fitsOne 72 = .ok (.ireturn, 1) := by decide +kernel
theorem dX9_fitsOne_73 : decode cX9_fitsOne 73 = .ok (.iinc 2 1, 3) := by decide +kernel
theorem dX9_fitsOne_76 : decode cX9_fitsOne 76 = .ok (.goto (-64), 3) := by decide +kernel
theorem dX9_fitsOne_79 : decode cX9_fitsOne 79 = .ok (.iinc 1 1, 3) := by decide +kernel
theorem dX9_fitsOne_82 : decode cX9_fitsOne 82 = .ok (.goto (-80), 3) := by decide +kernel
theorem dX9_fitsOne_85 : decode cX9_fitsOne 85 = .ok (.iconst 0, 1) := by decide +kernel
theorem dX9_fitsOne_86 : decode cX9_fitsOne 86 = .ok (.ireturn, 1) := by decide +kernel
theorem dX9_fitsTwo_0 : decode cX9_fitsTwo 0 = .ok (.iconst 0, 1) := by decide +kernel
theorem dX9_fitsTwo_1 : decode cX9_fitsTwo 1 = .ok (.istore_n 1, 1) := by decide +kernel
theorem dX9_fitsTwo_2 : decode cX9_fitsTwo 2 = .ok (.iload_n 1, 1) := by decide +kernel
theorem dX9_fitsTwo_3 : decode cX9_fitsTwo 3 = .ok (.bipush 8, 2) := by decide +kernel
theorem dX9_fitsTwo_5 : decode cX9_fitsTwo 5 = .ok (.if_icmp .ge 59, 3) := by decide +kernel
theorem dX9_fitsTwo_8 : decode cX9_fitsTwo 8 = .ok (.iload_n 1, 1) := by decide +kernel
theorem dX9_fitsTwo_9 : decode cX9_fitsTwo 9 = .ok (.iconst 1, 1) := by decide +kernel
theorem dX9_fitsTwo_10 : decode cX9_fitsTwo 10 = .ok (.iadd, 1) := by decide +kernel
theorem dX9_fitsTwo_11 : decode cX9_fitsTwo 11 = .ok (.istore_n 2, 1) := by decide +kernel
theorem dX9_fitsTwo_12 : decode cX9_fitsTwo 12 = .ok (.iload_n 2, 1) := by decide +kernel
theorem dX9_fitsTwo_13 : decode cX9_fitsTwo 13 = .ok (.bipush 8, 2) := by decide +kernel
theorem dX9_fitsTwo_15 : decode cX9_fitsTwo 15 = .ok (.if_icmp .ge 43, 3) := by decide +kernel
theorem dX9_fitsTwo_18 : decode cX9_fitsTwo 18 = .ok (.aload_n 0, 1) := by decide +kernel
theorem dX9_fitsTwo_19 : decode cX9_fitsTwo 19 = .ok (.iload_n 1, 1) := by decide +kernel
theorem dX9_fitsTwo_20 : decode cX9_fitsTwo 20 = .ok (.invokevirtual 430, 3) := by decide +kernel
theorem dX9_fitsTwo_23 : decode cX9_fitsTwo 23 = .ok (.ifCond .eq 29, 3) := by decide +kernel
theorem dX9_fitsTwo_26 : decode cX9_fitsTwo 26 = .ok (.aload_n 0, 1) := by decide +kernel
theorem dX9_fitsTwo_27 : decode cX9_fitsTwo 27 = .ok (.iload_n 2, 1) := by decide +kernel
theorem dX9_fitsTwo_28 : decode cX9_fitsTwo 28 = .ok (.invokevirtual 430, 3) := by decide +kernel
theorem dX9_fitsTwo_31 : decode cX9_fitsTwo 31 = .ok (.ifCond .eq 21, 3) := by decide +kernel
theorem dX9_fitsTwo_34 : decode cX9_fitsTwo 34 = .ok (.aload_n 0, 1) := by decide +kernel
theorem dX9_fitsTwo_35 : decode cX9_fitsTwo 35 = .ok (.iload_n 1, 1) := by decide +kernel
theorem dX9_fitsTwo_36 : decode cX9_fitsTwo 36 = .ok (.iload_n 2, 1) := by decide +kernel
theorem dX9_fitsTwo_37 : decode cX9_fitsTwo 37 = .ok (.invokevirtual 433, 3) := by decide +kernel
theorem dX9_fitsTwo_40 : decode cX9_fitsTwo 40 = .ok (.ifCond .eq 12, 3) := by decide +kernel
theorem dX9_fitsTwo_43 : decode cX9_fitsTwo 43 = .ok (.aload_n 0, 1) := by decide +kernel
theorem dX9_fitsTwo_44 : decode cX9_fitsTwo 44 = .ok (.iconst 2, 1) := by decide +kernel
theorem dX9_fitsTwo_45 : decode cX9_fitsTwo 45 = .ok (.iconst (-1), 1) := by decide +kernel
theorem dX9_fitsTwo_46 : decode cX9_fitsTwo 46 = .ok (.iload_n 2, 1) := by decide +kernel
theorem dX9_fitsTwo_47 : decode cX9_fitsTwo 47 = .ok (.invokevirtual 427, 3) := by decide +kernel
theorem dX9_fitsTwo_50 : decode cX9_fitsTwo 50 = .ok (.iconst 1, 1) := by decide +kernel
theorem dX9_fitsTwo_51 : decode cX9_fitsTwo 51 = .ok (.ireturn, 1) := by decide +kernel
theorem dX9_fitsTwo_52 : decode cX9_fitsTwo 52 = .ok (.iinc 2 1, 3) := by decide +kernel
theorem dX9_fitsTwo_55 : decode cX9_fitsTwo 55 = .ok (.goto (-43), 3) := by decide +kernel
theorem dX9_fitsTwo_58 : decode cX9_fitsTwo 58 = .ok (.iinc 1 1, 3) := by decide +kernel
theorem dX9_fitsTwo_61 : decode cX9_fitsTwo 61 = .ok (.goto (-59), 3) := by decide +kernel
theorem dX9_fitsTwo_64 : decode cX9_fitsTwo 64 = .ok (.iconst 0, 1) := by decide +kernel
theorem dX9_fitsTwo_65 : decode cX9_fitsTwo 65 = .ok (.ireturn, 1) := by decide +kernel
theorem dX9_fitsThree_0 : decode cX9_fitsThree 0 = .ok (.iconst 0, 1) := by decide +kernel
theorem dX9_fitsThree_1 : decode cX9_fitsThree 1 = .ok (.istore_n 1, 1) := by decide +kernel
theorem dX9_fitsThree_2 : decode cX9_fitsThree 2 = .ok (.iload_n 1, 1) := by decide +kernel
theorem dX9_fitsThree_3 : decode cX9_fitsThree 3 = .ok (.bipush 10, 2) := by decide +kernel
theorem dX9_fitsThree_5 : decode cX9_fitsThree 5 = .ok (.if_icmp .ge 83, 3) := by decide +kernel
theorem dX9_fitsThree_8 : decode cX9_fitsThree 8 = .ok (.aload_n 0, 1) := by decide +kernel
theorem dX9_fitsThree_9 : decode cX9_fitsThree 9 = .ok (.iload_n 1, 1) := by decide +kernel
theorem dX9_fitsThree_10 : decode cX9_fitsThree 10 = .ok (.invokevirtual 421, 3) := by decide +kernel
theorem dX9_fitsThree_13 : decode cX9_fitsThree 13 = .ok (.istore_n 2, 1) := by decide +kernel
theorem dX9_fitsThree_14 : decode cX9_fitsThree 14 = .ok (.iconst 0, 1) := by decide +kernel
theorem dX9_fitsThree_15 : decode cX9_fitsThree 15 = .ok (.istore_n 3, 1) := by decide +kernel
theorem dX9_fitsThree_16 : decode cX9_fitsThree 16 = .ok (.iload_n 3, 1) := by decide +kernel
theorem dX9_fitsThree_17 : decode cX9_fitsThree 17 = .ok (.bipush 8, 2) := by decide +kernel
theorem dX9_fitsThree_19 : decode cX9_fitsThree 19 = .ok (.if_icmp .ge 50, 3) := by decide +kernel
theorem dX9_fitsThree_22 : decode cX9_fitsThree 22 = .ok (.iload_n 2, 1) := by decide +kernel
theorem dX9_fitsThree_23 : decode cX9_fitsThree 23 = .ok (.aload_n 0, 1) := by decide +kernel
theorem dX9_fitsThree_24 : decode cX9_fitsThree 24 = .ok (.iload_n 3, 1) := by decide +kernel
theorem dX9_fitsThree_25 : decode cX9_fitsThree 25 = .ok (.iload_n 1, 1) := by decide +kernel
theorem dX9_fitsThree_26 : decode cX9_fitsThree 26 = .ok (.invokevirtual 415, 3) := by decide +kernel
theorem dX9_fitsThree_29 : decode cX9_fitsThree 29 = .ok (.aload_n 0, 1) := by decide +kernel
theorem dX9_fitsThree_30 : decode cX9_fitsThree 30 = .ok (.iload_n 3, 1) := by decide +kernel
theorem dX9_fitsThree_31 : decode cX9_fitsThree 31 = .ok (.iload_n 1, 1) := by decide +kernel
theorem dX9_fitsThree_32 : decode cX9_fitsThree 32 = .ok (.invokevirtual 418, 3) := by decide +kernel
theorem dX9_fitsThree_35 : decode cX9_fitsThree 35 = .ok (.if_icmp .ne 25, 3) := by decide +kernel
theorem dX9_fitsThree_38 : decode cX9_fitsThree 38 = .ok (.aload_n 0, 1) := by decide +kernel
theorem dX9_fitsThree_39 : decode cX9_fitsThree 39 = .ok (.iload_n 3, 1) := by decide +kernel
theorem dX9_fitsThree_40 : decode cX9_fitsThree 40 = .ok (.iload_n 1, 1) := by decide +kernel
theorem dX9_fitsThree_41 : decode cX9_fitsThree 41 = .ok (.invokevirtual 415, 3) := by decide +kernel
theorem dX9_fitsThree_44 : decode cX9_fitsThree 44 = .ok (.aload_n 0, 1) := by decide +kernel
theorem dX9_fitsThree_45 : decode cX9_fitsThree 45 = .ok (.getfield 16, 3) := by decide +kernel
theorem dX9_fitsThree_48 : decode cX9_fitsThree 48 = .ok (.bipush 10, 2) := by decide +kernel
theorem dX9_fitsThree_50 : decode cX9_fitsThree 50 = .ok (.iload_n 1, 1) := by decide +kernel
theorem dX9_fitsThree_51 : decode cX9_fitsThree 51 = .ok (.iadd, 1) := by decide +kernel
theorem dX9_fitsThree_52 : decode cX9_fitsThree 52 = .ok (.iaload, 1) := by decide +kernel
theorem dX9_fitsThree_53 : decode cX9_fitsThree 53 = .ok (.if_icmp .gt 7, 3) := by decide +kernel
theorem dX9_fitsThree_56 : decode cX9_fitsThree 56 = .ok (.iconst 1, 1) := by decide +kernel
theorem dX9_fitsThree_57 : decode cX9_fitsThree 57 = .ok (.goto 4, 3) := by decide +kernel
theorem dX9_fitsThree_60 : decode cX9_fitsThree 60 = .ok (.iconst 0, 1) := by decide +kernel
theorem dX9_fitsThree_61 : decode cX9_fitsThree 61 = .ok (.iand, 1) := by decide +kernel
theorem dX9_fitsThree_62 : decode cX9_fitsThree 62 = .ok (.istore_n 2, 1) := by decide +kernel
theorem dX9_fitsThree_63 : decode cX9_fitsThree 63 = .ok (.iinc 3 1, 3) := by decide +kernel
theorem dX9_fitsThree_66 : decode cX9_fitsThree 66 = .ok (.goto (-50), 3) := by decide +kernel
theorem dX9_fitsThree_69 : decode cX9_fitsThree 69 = .ok (.iload_n 2, 1) := by decide +kernel
theorem dX9_fitsThree_70 : decode cX9_fitsThree 70 = .ok (.ifCond .eq 12, 3) := by decide +kernel
theorem dX9_fitsThree_73 : decode cX9_fitsThree 73 = .ok (.aload_n 0, 1) := by decide +kernel
theorem dX9_fitsThree_74 : decode cX9_fitsThree 74 = .ok (.iconst 3, 1) := by decide +kernel
theorem dX9_fitsThree_75 : decode cX9_fitsThree 75 = .ok (.iload_n 1, 1) := by decide +kernel
theorem dX9_fitsThree_76 : decode cX9_fitsThree 76 = .ok (.iconst (-1), 1) := by decide +kernel
theorem dX9_fitsThree_77 : decode cX9_fitsThree 77 = .ok (.invokevirtual 427, 3) := by decide +kernel
theorem dX9_fitsThree_80 : decode cX9_fitsThree 80 = .ok (.iconst 1, 1) := by decide +kernel
theorem dX9_fitsThree_81 : decode cX9_fitsThree 81 = .ok (.ireturn, 1) := by decide +kernel
theorem dX9_fitsThree_82 : decode cX9_fitsThree 82 = .ok (.iinc 1 1, 3) := by decide +kernel
theorem dX9_fitsThree_85 : decode cX9_fitsThree 85 = .ok (.goto (-83), 3) := by decide +kernel
theorem dX9_fitsThree_88 : decode cX9_fitsThree 88 = .ok (.iconst 0, 1) := by decide +kernel
theorem dX9_fitsThree_89 : decode cX9_fitsThree 89 = .ok (.ireturn, 1) := by decide +kernel
theorem dX9_fitsFour_0 : decode cX9_fitsFour 0 = .ok (.iconst 0, 1) := by decide +kernel
theorem dX9_fitsFour_1 : decode cX9_fitsFour 1 = .ok (.istore_n 1, 1) := by decide +kernel
theorem dX9_fitsFour_2 : decode cX9_fitsFour 2 = .ok (.iload_n 1, 1) := by decide +kernel
theorem dX9_fitsFour_3 : decode cX9_fitsFour 3 = .ok (.bipush 8, 2) := by decide +kernel
theorem dX9_fitsFour_5 : decode cX9_fitsFour 5 = .ok (.if_icmp .ge 78, 3) := by decide +kernel
theorem dX9_fitsFour_8 : decode cX9_fitsFour 8 = .ok (.aload_n 0, 1) := by decide +kernel
theorem dX9_fitsFour_9 : decode cX9_fitsFour 9 = .ok (.getfield 22, 3) := by decide +kernel
theorem dX9_fitsFour_12 : decode cX9_fitsFour 12 = .ok (.iconst 1, 1) := by decide +kernel
theorem dX9_fitsFour_13 : decode cX9_fitsFour 13 = .ok (.iaload, 1) := by decide +kernel
theorem dX9_fitsFour_14 : decode cX9_fitsFour 14 = .ok (.invokestatic 266, 3) := by decide +kernel
theorem dX9_fitsFour_17 : decode cX9_fitsFour 17 = .ok (.iconst 1, 1) := by decide +kernel
theorem dX9_fitsFour_18 : decode cX9_fitsFour 18 = .ok (.if_icmp .le 65, 3) := by decide +kernel
theorem dX9_fitsFour_21 : decode cX9_fitsFour 21 = .ok (.aload_n 0, 1) := by decide +kernel
theorem dX9_fitsFour_22 : decode cX9_fitsFour 22 = .ok (.iload_n 1, 1) := by decide +kernel
theorem dX9_fitsFour_23 : decode cX9_fitsFour 23 = .ok (.invokevirtual 430, 3) := by decide +kernel
theorem dX9_fitsFour_26 : decode cX9_fitsFour 26 = .ok (.istore_n 2, 1) := by decide +kernel
theorem dX9_fitsFour_27 : decode cX9_fitsFour 27 = .ok (.iconst 0, 1) := by decide +kernel
theorem dX9_fitsFour_28 : decode cX9_fitsFour 28 = .ok (.istore_n 3, 1) := by decide +kernel
theorem dX9_fitsFour_29 : decode cX9_fitsFour 29 = .ok (.iload_n 3, 1) := by decide +kernel
theorem dX9_fitsFour_30 : decode cX9_fitsFour 30 = .ok (.bipush 10, 2) := by decide +kernel
theorem dX9_fitsFour_32 : decode cX9_fitsFour 32 = .ok (.if_icmp .ge 32, 3) := by decide +kernel
theorem dX9_fitsFour_35 : decode cX9_fitsFour 35 = .ok (.iload_n 2, 1) := by decide +kernel
theorem dX9_fitsFour_36 : decode cX9_fitsFour 36 = .ok (.aload_n 0, 1) := by decide +kernel
theorem dX9_fitsFour_37 : decode cX9_fitsFour 37 = .ok (.iload_n 1, 1) := by decide +kernel
theorem dX9_fitsFour_38 : decode cX9_fitsFour 38 = .ok (.iload_n 3, 1) := by decide +kernel
theorem dX9_fitsFour_39 : decode cX9_fitsFour 39 = .ok (.invokevirtual 415, 3) := by decide +kernel
theorem dX9_fitsFour_42 : decode cX9_fitsFour 42 = .ok (.aload_n 0, 1) := by decide +kernel
theorem dX9_fitsFour_43 : decode cX9_fitsFour 43 = .ok (.iload_n 1, 1) := by decide +kernel
theorem dX9_fitsFour_44 : decode cX9_fitsFour 44 = .ok (.iload_n 3, 1) := by decide +kernel
theorem dX9_fitsFour_45 : decode cX9_fitsFour 45 = .ok (.invokevirtual 418, 3) := by decide +kernel
theorem dX9_fitsFour_48 : decode cX9_fitsFour 48 = .ok (.if_icmp .ne 7, 3) := by decide +kernel
theorem dX9_fitsFour_51 : decode cX9_fitsFour 51 = .ok (.iconst 1, 1) := by decide +kernel
theorem dX9_fitsFour_52 : decode cX9_fitsFour 52 = .ok (.goto 4, 3) := by decide +kernel
theorem dX9_fitsFour_55 : decode cX9_fitsFour 55 = .ok (.iconst 0, 1) := by decide +kernel
theorem dX9_fitsFour_56 : decode cX9_fitsFour 56 = .ok (.iand, 1) := by decide +kernel
theorem dX9_fitsFour_57 : decode cX9_fitsFour 57 = .ok (.istore_n 2, 1) := by decide +kernel
theorem dX9_fitsFour_58 : decode cX9_fitsFour 58 = .ok (.iinc 3 1, 3) := by decide +kernel
theorem dX9_fitsFour_61 : decode cX9_fitsFour 61 = .ok (.goto (-32), 3) := by decide +kernel
theorem dX9_fitsFour_64 : decode cX9_fitsFour 64 = .ok (.iload_n 2, 1) := by decide +kernel
theorem dX9_fitsFour_65 : decode cX9_fitsFour 65 = .ok (.ifCond .eq 12, 3) := by decide +kernel
theorem dX9_fitsFour_68 : decode cX9_fitsFour 68 = .ok (.aload_n 0, 1) := by decide +kernel
theorem dX9_fitsFour_69 : decode cX9_fitsFour 69 = .ok (.iconst 4, 1) := by decide +kernel
theorem dX9_fitsFour_70 : decode cX9_fitsFour 70 = .ok (.iconst (-1), 1) := by decide +kernel
theorem dX9_fitsFour_71 : decode cX9_fitsFour 71 = .ok (.iload_n 1, 1) := by decide +kernel
theorem dX9_fitsFour_72 : decode cX9_fitsFour 72 = .ok (.invokevirtual 427, 3) := by decide +kernel
theorem dX9_fitsFour_75 : decode cX9_fitsFour 75 = .ok (.iconst 1, 1) := by decide +kernel
theorem dX9_fitsFour_76 : decode cX9_fitsFour 76 = .ok (.ireturn, 1) := by decide +kernel
theorem dX9_fitsFour_77 : decode cX9_fitsFour 77 = .ok (.iinc 1 1, 3) := by decide +kernel
theorem dX9_fitsFour_80 : decode cX9_fitsFour 80 = .ok (.goto (-78), 3) := by decide +kernel
theorem dX9_fitsFour_83 : decode cX9_fitsFour 83 = .ok (.iconst 0, 1) := by decide +kernel
theorem dX9_fitsFour_84 : decode cX9_fitsFour 84 = .ok (.ireturn, 1) := by decide +kernel
theorem dX9_oneAt_0 : decode cX9_oneAt 0 = .ok (.iconst (-1), 1) := by decide +kernel
theorem dX9_oneAt_1 : decode cX9_oneAt 1 = .ok (.istore_n 3, 1) := by decide +kernel
theorem dX9_oneAt_2 : decode cX9_oneAt 2 = .ok (.iconst 0, 1) := by decide +kernel
theorem dX9_oneAt_3 : decode cX9_oneAt 3 = .ok (.istore 4, 2) := by decide +kernel
theorem dX9_oneAt_5 : decode cX9_oneAt 5 = .ok (.iconst 0, 1) := by decide +kernel
theorem dX9_oneAt_6 : decode cX9_oneAt 6 = .ok (.istore 5, 2) := by decide +kernel
theorem dX9_oneAt_8 : decode cX9_oneAt 8 = .ok (.iload 5, 2) := by decide +kernel
theorem dX9_oneAt_10 : decode cX9_oneAt 10 = .ok (.bipush 8, 2) := by decide +kernel
theorem dX9_oneAt_12 : decode cX9_oneAt 12 = .ok (.if_icmp .ge 51, 3) := by decide +kernel
theorem dX9_oneAt_15 : decode cX9_oneAt 15 = .ok (.iload_n 2, 1) := by decide +kernel
theorem dX9_oneAt_16 : decode cX9_oneAt 16 = .ok (.ifCond .eq 13, 3) := by decide +kernel
theorem dX9_oneAt_19 : decode cX9_oneAt 19 = .ok (.aload_n 0, 1) := by decide +kernel
theorem dX9_oneAt_20 : decode cX9_oneAt 20 = .ok (.iload 5, 2) := by decide +kernel
theorem dX9_oneAt_22 : decode cX9_oneAt 22 = .ok (.iload_n 1, 1) := by decide +kernel
theorem dX9_oneAt_23 : decode cX9_oneAt 23 = .ok (.invokevirtual 415, 3) := by decide +kernel
theorem dX9_oneAt_26 : decode cX9_oneAt 26 = .ok (.goto 10, 3) := by decide +kernel
theorem dX9_oneAt_29 : decode cX9_oneAt 29 = .ok (.aload_n 0, 1) := by decide +kernel
theorem dX9_oneAt_30 : decode cX9_oneAt 30 = .ok (.iload 5, 2) := by decide +kernel
theorem dX9_oneAt_32 : decode cX9_oneAt 32 = .ok (.iload_n 1, 1) := by decide +kernel
theorem dX9_oneAt_33 : decode cX9_oneAt 33 = .ok (.invokevirtual 418, 3) := by decide +kernel
theorem dX9_oneAt_36 : decode cX9_oneAt 36 = .ok (.istore 6, 2) := by decide +kernel
theorem dX9_oneAt_38 : decode cX9_oneAt 38 = .ok (.iload 4, 2) := by decide +kernel
theorem dX9_oneAt_40 : decode cX9_oneAt 40 = .ok (.iload 6, 2) := by decide +kernel
theorem dX9_oneAt_42 : decode cX9_oneAt 42 = .ok (.iadd, 1) := by decide +kernel
theorem dX9_oneAt_43 : decode cX9_oneAt 43 = .ok (.istore 4, 2) := by decide +kernel
theorem dX9_oneAt_45 : decode cX9_oneAt 45 = .ok (.iload 6, 2) := by decide +kernel
theorem dX9_oneAt_47 : decode cX9_oneAt 47 = .ok (.ifCond .le 8, 3) := by decide +kernel
theorem dX9_oneAt_50 : decode cX9_oneAt 50 = .ok (.iload 5, 2) := by decide +kernel
theorem dX9_oneAt_52 : decode cX9_oneAt 52 = .ok (.goto 4, 3) := by decide +kernel
theorem dX9_oneAt_55 : decode cX9_oneAt 55 = .ok (.iload_n 3, 1) := by decide +kernel
theorem dX9_oneAt_56 : decode cX9_oneAt 56 = .ok (.istore_n 3, 1) := by decide +kernel
theorem dX9_oneAt_57 : decode cX9_oneAt 57 = .ok (.iinc 5 1, 3) := by decide +kernel
theorem dX9_oneAt_60 : decode cX9_oneAt 60 = .ok (.goto (-52), 3) := by decide +kernel
theorem dX9_oneAt_63 : decode cX9_oneAt 63 = .ok (.iload 4, 2) := by decide +kernel
theorem dX9_oneAt_65 : decode cX9_oneAt 65 = .ok (.iconst 1, 1) := by decide +kernel
theorem dX9_oneAt_66 : decode cX9_oneAt 66 = .ok (.if_icmp .ne 7, 3) := by decide +kernel
theorem dX9_oneAt_69 : decode cX9_oneAt 69 = .ok (.iload_n 3, 1) := by decide +kernel
theorem dX9_oneAt_70 : decode cX9_oneAt 70 = .ok (.goto 4, 3) := by decide +kernel
theorem dX9_oneAt_73 : decode cX9_oneAt 73 = .ok (.iconst (-1), 1) := by decide +kernel
theorem dX9_oneAt_74 : decode cX9_oneAt 74 = .ok (.ireturn, 1) := by decide +kernel
theorem dX9_onePlace_0 : decode cX9_onePlace 0 = .ok (.iconst (-1), 1) := by decide +kernel
theorem dX9_onePlace_1 : decode cX9_onePlace 1 = .ok (.istore_n 3, 1) := by decide +kernel
theorem dX9_onePlace_2 : decode cX9_onePlace 2 = .ok (.iconst 0, 1) := by decide +kernel
theorem dX9_onePlace_3 : decode cX9_onePlace 3 = .ok (.istore 4, 2) := by decide +kernel
theorem dX9_onePlace_5 : decode cX9_onePlace 5 = .ok (.iconst 0, 1) := by decide +kernel
theorem dX9_onePlace_6 : decode cX9_onePlace 6 = .ok (.istore 5, 2) := by decide +kernel
theorem dX9_onePlace_8 : decode cX9_onePlace 8 = .ok (.iload 5, 2) := by decide +kernel
theorem dX9_onePlace_10 : decode cX9_onePlace 10 = .ok (.bipush 10, 2) := by decide +kernel
theorem dX9_onePlace_12 : decode cX9_onePlace 12 = .ok (.if_icmp .ge 51, 3) := by decide +kernel
theorem dX9_onePlace_15 : decode cX9_onePlace 15 = .ok (.iload_n 2, 1) := by decide +kernel
theorem dX9_onePlace_16 : decode cX9_onePlace 16 = .ok (.ifCond .eq 13, 3) := by decide +kernel
theorem dX9_onePlace_19 : decode cX9_onePlace 19 = .ok (.aload_n 0, 1) := by decide +kernel
theorem dX9_onePlace_20 : decode cX9_onePlace 20 = .ok (.iload_n 1, 1) := by decide +kernel
theorem dX9_onePlace_21 : decode cX9_onePlace 21 = .ok (.iload 5, 2) := by decide +kernel
theorem dX9_onePlace_23 : decode cX9_onePlace 23 = .ok (.invokevirtual 415, 3) := by decide +kernel
theorem dX9_onePlace_26 : decode cX9_onePlace 26 = .ok (.goto 10, 3) := by decide +kernel
theorem dX9_onePlace_29 : decode cX9_onePlace 29 = .ok (.aload_n 0, 1) := by decide +kernel
theorem dX9_onePlace_30 : decode cX9_onePlace 30 = .ok (.iload_n 1, 1) := by decide +kernel
theorem dX9_onePlace_31 : decode cX9_onePlace 31 = .ok (.iload 5, 2) := by decide +kernel
theorem dX9_onePlace_33 : decode cX9_onePlace 33 = .ok (.invokevirtual 418, 3) := by decide +kernel
theorem dX9_onePlace_36 : decode cX9_onePlace 36 = .ok (.istore 6, 2) := by decide +kernel
theorem dX9_onePlace_38 : decode cX9_onePlace 38 = .ok (.iload 4, 2) := by decide +kernel
theorem dX9_onePlace_40 : decode cX9_onePlace 40 = .ok (.iload 6, 2) := by decide +kernel
theorem dX9_onePlace_42 : decode cX9_onePlace 42 = .ok (.iadd, 1) := by decide +kernel
theorem dX9_onePlace_43 : decode cX9_onePlace 43 = .ok (.istore 4, 2) := by decide +kernel
theorem dX9_onePlace_45 : decode cX9_onePlace 45 = .ok (.iload 6, 2) := by decide +kernel
theorem dX9_onePlace_47 : decode cX9_onePlace 47 = .ok (.ifCond .le 8, 3) := by decide +kernel
theorem dX9_onePlace_50 : decode cX9_onePlace 50 = .ok (.iload 5, 2) := by decide +kernel
theorem dX9_onePlace_52 : decode cX9_onePlace 52 = .ok (.goto 4, 3) := by decide +kernel
theorem dX9_onePlace_55 : decode cX9_onePlace 55 = .ok (.iload_n 3, 1) := by decide +kernel
theorem dX9_onePlace_56 : decode cX9_onePlace 56 = .ok (.istore_n 3, 1) := by decide +kernel
theorem dX9_onePlace_57 : decode cX9_onePlace 57 = .ok (.iinc 5 1, 3) := by decide +kernel
theorem dX9_onePlace_60 : decode cX9_onePlace 60 = .ok (.goto (-52), 3) := by decide +kernel
theorem dX9_onePlace_63 : decode cX9_onePlace 63 = .ok (.iload 4, 2) := by decide +kernel
theorem dX9_onePlace_65 : decode cX9_onePlace 65 = .ok (.iconst 1, 1) := by decide +kernel
theorem dX9_onePlace_66 : decode cX9_onePlace 66 = .ok (.if_icmp .ne 7, 3) := by decide +kernel
theorem dX9_onePlace_69 : decode cX9_onePlace 69 = .ok (.iload_n 3, 1) := by decide +kernel
theorem dX9_onePlace_70 : decode cX9_onePlace 70 = .ok (.goto 4, 3) := by decide +kernel
theorem dX9_onePlace_73 : decode cX9_onePlace 73 = .ok (.iconst (-1), 1) := by decide +kernel
theorem dX9_onePlace_74 : decode cX9_onePlace 74 = .ok (.ireturn, 1) := by decide +kernel
theorem dX9_fitsFive_0 : decode cX9_fitsFive 0 = .ok (.iconst 0, 1) := by decide +kernel
theorem dX9_fitsFive_1 : decode cX9_fitsFive 1 = .ok (.istore_n 1, 1) := by decide +kernel
theorem dX9_fitsFive_2 : decode cX9_fitsFive 2 = .ok (.iload_n 1, 1) := by decide +kernel
theorem dX9_fitsFive_3 : decode cX9_fitsFive 3 = .ok (.bipush 10, 2) := by decide +kernel
theorem dX9_fitsFive_5 : decode cX9_fitsFive 5 = .ok (.if_icmp .ge 185, 3) := by decide +kernel
theorem dX9_fitsFive_8 : decode cX9_fitsFive 8 = .ok (.aload_n 0, 1) := by decide +kernel
theorem dX9_fitsFive_9 : decode cX9_fitsFive 9 = .ok (.iload_n 1, 1) := by decide +kernel
theorem dX9_fitsFive_10 : decode cX9_fitsFive 10 = .ok (.invokevirtual 421, 3) := by decide +kernel
theorem dX9_fitsFive_13 : decode cX9_fitsFive 13 = .ok (.ifCond .eq 171, 3) := by decide +kernel
theorem dX9_fitsFive_16 : decode cX9_fitsFive 16 = .ok (.aload_n 0, 1) := by decide +kernel
theorem dX9_fitsFive_17 : decode cX9_fitsFive 17 = .ok (.getfield 16, 3) := by decide +kernel
theorem dX9_fitsFive_20 : decode cX9_fitsFive 20 = .ok (.bipush 10, 2) := by decide +kernel
theorem dX9_fitsFive_22 : decode cX9_fitsFive 22 = .ok (.iload_n 1, 1) := by decide +kernel
theorem dX9_fitsFive_23 : decode cX9_fitsFive 23 = .ok (.iadd, 1) := by decide +kernel
theorem dX9_fitsFive_24 : decode cX9_fitsFive 24 = .ok (.iaload, 1) := by decide +kernel
theorem dX9_fitsFive_25 : decode cX9_fitsFive 25 = .ok (.ifCond .le 6, 3) := by decide +kernel
theorem dX9_fitsFive_28 : decode cX9_fitsFive 28 = .ok (.goto 156, 3) := by decide +kernel
theorem dX9_fitsFive_31 : decode cX9_fitsFive 31 = .ok (.aload_n 0, 1) := by decide +kernel
theorem dX9_fitsFive_32 : decode cX9_fitsFive 32 = .ok (.iload_n 1, 1) := by decide +kernel
theorem dX9_fitsFive_33 : decode cX9_fitsFive 33 = .ok (.iconst 0, 1) := by decide +kernel
theorem dX9_fitsFive_34 : decode cX9_fitsFive 34 = .ok (.invokevirtual 436, 3) := by decide +kernel
theorem dX9_fitsFive_37 : decode cX9_fitsFive 37 = .ok (.istore_n 2, 1) := by decide +kernel
theorem dX9_fitsFive_38 : decode cX9_fitsFive 38 = .ok (.aload_n 0, 1) := by decide +kernel
theorem dX9_fitsFive_39 : decode cX9_fitsFive 39 = .ok (.iload_n 1, 1) := by decide +kernel
theorem dX9_fitsFive_40 : decode cX9_fitsFive 40 = .ok (.iconst 1, 1) := by decide +kernel
theorem dX9_fitsFive_41 : decode cX9_fitsFive 41 = .ok (.invokevirtual 436, 3) := by decide +kernel
theorem dX9_fitsFive_44 : decode cX9_fitsFive 44 = .ok (.istore_n 3, 1) := by decide +kernel
theorem dX9_fitsFive_45 : decode cX9_fitsFive 45 = .ok (.iload_n 2, 1) := by decide +kernel
theorem dX9_fitsFive_46 : decode cX9_fitsFive 46 = .ok (.ifCond .lt 26, 3) := by decide +kernel
theorem dX9_fitsFive_49 : decode cX9_fitsFive 49 = .ok (.iload_n 3, 1) := by decide +kernel
theorem dX9_fitsFive_50 : decode cX9_fitsFive 50 = .ok (.ifCond .lt 22, 3) := by decide +kernel
theorem dX9_fitsFive_53 : decode cX9_fitsFive 53 = .ok (.iload_n 2, 1) := by decide +kernel
theorem dX9_fitsFive_54 : decode cX9_fitsFive 54 = .ok (.iload_n 3, 1) := by decide +kernel
theorem dX9_fitsFive_55 : decode cX9_fitsFive 55 = .ok (.if_icmp .eq 17, 3) := by decide +kernel
theorem dX9_fitsFive_58 : decode cX9_fitsFive 58 = .ok (.aload_n 0, 1) := by decide +kernel
theorem dX9_fitsFive_59 : decode cX9_fitsFive 59 = .ok (.iload_n 3, 1) := by decide +kernel
theorem dX9_fitsFive_60 : decode cX9_fitsFive 60 = .ok (.iconst 1, 1) := by decide +kernel
theorem dX9_fitsFive_61 : decode cX9_fitsFive 61 = .ok (.invokevirtual 439, 3) := by decide +kernel
theorem dX9_fitsFive_64 : decode cX9_fitsFive 64 = .ok (.iload_n 1, 1) := by decide +kernel
theorem dX9_fitsFive_65 : decode cX9_fitsFive 65 = .ok (.if_icmp .ne 7, 3) := by decide +kernel
theorem dX9_fitsFive_68 : decode cX9_fitsFive 68 = .ok (.iconst 1, 1) := by decide +kernel
theorem dX9_fitsFive_69 : decode cX9_fitsFive 69 = .ok (.goto 4, 3) := by decide +kernel
theorem dX9_fitsFive_72 : decode cX9_fitsFive 72 = .ok (.iconst 0, 1) := by decide +kernel
theorem dX9_fitsFive_73 : decode cX9_fitsFive 73 = .ok (.istore 4, 2) := by decide +kernel
theorem dX9_fitsFive_75 : decode cX9_fitsFive 75 = .ok (.iconst 0, 1) := by decide +kernel
theorem dX9_fitsFive_76 : decode cX9_fitsFive 76 = .ok (.istore 5, 2) := by decide +kernel
theorem dX9_fitsFive_78 : decode cX9_fitsFive 78 = .ok (.iload 5, 2) := by decide +kernel
theorem dX9_fitsFive_80 : decode cX9_fitsFive 80 = .ok (.bipush 10, 2) := by decide +kernel
theorem dX9_fitsFive_82 : decode cX9_fitsFive 82 = .ok (.if_icmp .ge 46, 3) := by decide +kernel
theorem dX9_fitsFive_85 : decode cX9_fitsFive 85 = .ok (.iload 4, 2) := by decide +kernel
theorem dX9_fitsFive_87 : decode cX9_fitsFive 87 = .ok (.ifCond .eq 41, 3) := by decide +kernel
theorem dX9_fitsFive_90 : decode cX9_fitsFive 90 = .ok (.iload 5, 2) := by decide +kernel
theorem dX9_fitsFive_92 : decode cX9_fitsFive 92 = .ok (.iload_n 1, 1) := by decide +kernel
theorem dX9_fitsFive_93 : decode cX9_fitsFive 93 = .ok (.if_icmp .eq 22, 3) := by decide +kernel
theorem dX9_fitsFive_96 : decode cX9_fitsFive 96 = .ok (.aload_n 0, 1) := by decide +kernel
theorem dX9_fitsFive_97 : decode cX9_fitsFive 97 = .ok (.iload_n 2, 1) := by decide +kernel
theorem dX9_fitsFive_98 : decode cX9_fitsFive 98 = .ok (.iload 5, 2) := by decide +kernel
theorem dX9_fitsFive_100 : decode cX9_fitsFive 100 = .ok (.invokevirtual 418, 3) := by decide +kernel
theorem dX9_fitsFive_103 : decode cX9_fitsFive 103 = .ok (.aload_n 0, 1) := by decide +kernel
theorem dX9_fitsFive_104 : decode cX9_fitsFive 104 = .ok (.iload_n 3, 1) := by decide +kernel
theorem dX9_fitsFive_105 : decode cX9_fitsFive 105 = .ok (.iload 5, 2) := by decide +kernel
theorem dX9_fitsFive_107 : decode cX9_fitsFive 107 = .ok (.invokevirtual 418, 3) := by decide +kernel
theorem dX9_fitsFive_110 : decode cX9_fitsFive 110 = .ok (.iadd, 1) := by decide +kernel
theorem dX9_fitsFive_111 : decode cX9_fitsFive 111 = .ok (.iconst 3, 1) := by decide +kernel
theorem dX9_fitsFive_112 : decode cX9_fitsFive 112 = .ok (.if_icmp .gt 7, 3) := by decide +kernel
theorem dX9_fitsFive_115 : decode cX9_fitsFive 115 = .ok (.iconst 1, 1) := by decide +kernel
theorem dX9_fitsFive_116 : decode cX9_fitsFive 116 = .ok (.goto 4, 3) := by decide +kernel
theorem dX9_fitsFive_119 : decode cX9_fitsFive 119 = .ok (.iconst 0, 1) := by decide +kernel
theorem dX9_fitsFive_120 : decode cX9_fitsFive 120 = .ok (.istore 4, 2) := by decide +kernel
theorem dX9_fitsFive_122 : decode cX9_fitsFive 122 = .ok (.iinc 5 1, 3) := by decide +kernel
theorem dX9_fitsFive_125 : decode cX9_fitsFive 125 = .ok (.goto (-47), 3) := by decide +kernel
theorem dX9_fitsFive_128 : decode cX9_fitsFive 128 = .ok (.iload 4, 2) := by decide +kernel
theorem dX9_fitsFive_130 : decode cX9_fitsFive 130 = .ok (.ifCond .ne 6, 3) := by decide +kernel
theorem dX9_fitsFive_133 : decode cX9_fitsFive 133 = .ok (.goto 51, 3) := by decide +kernel
theorem dX9_fitsFive_136 : decode cX9_fitsFive 136 = .ok (.iconst 0, 1) := by decide +kernel
theorem dX9_fitsFive_137 : decode cX9_fitsFive 137 = .ok (.istore 5, 2) := by decide +kernel
theorem dX9_fitsFive_139 : decode cX9_fitsFive 139 = .ok (.iload 5, 2) := by decide +kernel
theorem dX9_fitsFive_141 : decode cX9_fitsFive 141 = .ok (.bipush 10, 2) := by decide +kernel
theorem dX9_fitsFive_143 : decode cX9_fitsFive 143 = .ok (.if_icmp .ge 32, 3) := by decide +kernel
theorem dX9_fitsFive_146 : decode cX9_fitsFive 146 = .ok (.aload_n 0, 1) := by decide +kernel
theorem dX9_fitsFive_147 : decode cX9_fitsFive 147 = .ok (.getfield 13, 3) := by decide +kernel
theorem dX9_fitsFive_150 : decode cX9_fitsFive 150 = .ok (.aload_n 0, 1) := by decide +kernel
theorem dX9_fitsFive_151 : decode cX9_fitsFive 151 = .ok (.iconst 1, 1) := by decide +kernel
theorem dX9_fitsFive_152 : decode cX9_fitsFive 152 = .ok (.iload_n 2, 1) := by decide +kernel
theorem dX9_fitsFive_153 : decode cX9_fitsFive 153 = .ok (.iload 5, 2) := by decide +kernel
theorem dX9_fitsFive_155 : decode cX9_fitsFive 155 = .ok (.invokevirtual 144, 3) := by decide +kernel
theorem dX9_fitsFive_158 : decode cX9_fitsFive 158 = .ok (.dup2, 1) := by decide +kernel
theorem dX9_fitsFive_159 : decode cX9_fitsFive 159 = .ok (.iaload, 1) := by decide +kernel
theorem dX9_fitsFive_160 : decode cX9_fitsFive 160 = .ok (.aload_n 0, 1) := by decide +kernel
theorem dX9_fitsFive_161 : decode cX9_fitsFive 161 = .ok (.iload_n 3, 1) := by decide +kernel
theorem dX9_fitsFive_162 : decode cX9_fitsFive 162 = .ok (.iload 5, 2) := by decide +kernel
theorem dX9_fitsFive_164 : decode cX9_fitsFive 164 = .ok (.invokevirtual 418, 3) := by decide +kernel
theorem dX9_fitsFive_167 : decode cX9_fitsFive 167 = .ok (.iadd, 1) := by decide +kernel
theorem dX9_fitsFive_168 : decode cX9_fitsFive 168 = .ok (.iastore, 1) := by decide +kernel
theorem dX9_fitsFive_169 : decode cX9_fitsFive 169 = .ok (.iinc 5 1, 3) := by decide +kernel
theorem dX9_fitsFive_172 : decode cX9_fitsFive 172 = .ok (.goto (-33), 3) := by decide +kernel
theorem dX9_fitsFive_175 : decode cX9_fitsFive 175 = .ok (.aload_n 0, 1) := by decide +kernel
theorem dX9_fitsFive_176 : decode cX9_fitsFive 176 = .ok (.iconst 5, 1) := by decide +kernel
theorem dX9_fitsFive_177 : decode cX9_fitsFive 177 = .ok (.iload_n 1, 1) := by decide +kernel
theorem dX9_fitsFive_178 : decode cX9_fitsFive 178 = .ok (.iload_n 3, 1) := by decide +kernel
theorem dX9_fitsFive_179 : decode cX9_fitsFive 179 = .ok (.invokevirtual 427, 3) := by decide +kernel
theorem dX9_fitsFive_182 : decode cX9_fitsFive 182 = .ok (.iconst 1, 1) := by decide +kernel
theorem dX9_fitsFive_183 : decode cX9_fitsFive 183 = .ok (.ireturn, 1) := by decide +kernel
theorem dX9_fitsFive_184 : decode cX9_fitsFive 184 = .ok (.iinc 1 1, 3) := by decide +kernel
theorem dX9_fitsFive_187 : decode cX9_fitsFive 187 = .ok (.goto (-185), 3) := by decide +kernel
theorem dX9_fitsFive_190 : decode cX9_fitsFive 190 = .ok (.iconst 0, 1) := by decide +kernel
theorem dX9_fitsFive_191 : decode cX9_fitsFive 191 = .ok (.ireturn, 1) := by decide +kernel
theorem dX9_fitsSix_0 : decode cX9_fitsSix 0 = .ok (.iconst 0, 1) := by decide +kernel
theorem dX9_fitsSix_1 : decode cX9_fitsSix 1 = .ok (.istore_n 1, 1) := by decide +kernel
theorem dX9_fitsSix_2 : decode cX9_fitsSix 2 = .ok (.iload_n 1, 1) := by decide +kernel
theorem dX9_fitsSix_3 : decode cX9_fitsSix 3 = .ok (.bipush 8, 2) := by decide +kernel
theorem dX9_fitsSix_5 : decode cX9_fitsSix 5 = .ok (.if_icmp .ge 233, 3) := by decide +kernel
theorem dX9_fitsSix_8 : decode cX9_fitsSix 8 = .ok (.aload_n 0, 1) := by decide +kernel
theorem dX9_fitsSix_9 : decode cX9_fitsSix 9 = .ok (.iload_n 1, 1) := by decide +kernel
theorem dX9_fitsSix_10 : decode cX9_fitsSix 10 = .ok (.invokevirtual 430, 3) := by decide +kernel
theorem dX9_fitsSix_13 : decode cX9_fitsSix 13 = .ok (.ifCond .eq 12, 3) := by decide +kernel
theorem dX9_fitsSix_16 : decode cX9_fitsSix 16 = .ok (.aload_n 0, 1) := by decide +kernel
theorem dX9_fitsSix_17 : decode cX9_fitsSix 17 = .ok (.iload_n 1, 1) := by decide +kernel
theorem dX9_fitsSix_18 : decode cX9_fitsSix 18 = .ok (.iconst 1, 1) := by decide +kernel
theorem dX9_fitsSix_19 : decode cX9_fitsSix 19 = .ok (.invokevirtual 439, 3) := by decide +kernel
theorem dX9_fitsSix_22 : decode cX9_fitsSix 22 = .ok (.goto 4, 3) := by decide +kernel
theorem dX9_fitsSix_25 : decode cX9_fitsSix 25 = .ok (.iconst (-1), 1) := by decide +kernel
theorem dX9_fitsSix_26 : decode cX9_fitsSix 26 = .ok (.istore_n 2, 1) := by decide +kernel
theorem dX9_fitsSix_27 : decode cX9_fitsSix 27 = .ok (.aload_n 0, 1) := by decide +kernel
theorem dX9_fitsSix_28 : decode cX9_fitsSix 28 = .ok (.iload_n 1, 1) := by decide +kernel
theorem dX9_fitsSix_29 : decode cX9_fitsSix 29 = .ok (.invokevirtual 430, 3) := by decide +kernel
theorem dX9_fitsSix_32 : decode cX9_fitsSix 32 = .ok (.ifCond .eq 12, 3) := by decide +kernel
theorem dX9_fitsSix_35 : decode cX9_fitsSix 35 = .ok (.aload_n 0, 1) := by decide +kernel
theorem dX9_fitsSix_36 : decode cX9_fitsSix 36 = .ok (.iload_n 1, 1) := by decide +kernel
theorem dX9_fitsSix_37 : decode cX9_fitsSix 37 = .ok (.iconst 0, 1) := by decide +kernel
theorem dX9_fitsSix_38 : decode cX9_fitsSix 38 = .ok (.invokevirtual 439, 3) := by decide +kernel
theorem dX9_fitsSix_41 : decode cX9_fitsSix 41 = .ok (.goto 4, 3) := by decide +kernel
theorem dX9_fitsSix_44 : decode cX9_fitsSix 44 = .ok (.iconst (-1), 1) := by decide +kernel
theorem dX9_fitsSix_45 : decode cX9_fitsSix 45 = .ok (.istore_n 3, 1) := by decide +kernel
theorem dX9_fitsSix_46 : decode cX9_fitsSix 46 = .ok (.iload_n 2, 1) := by decide +kernel
theorem dX9_fitsSix_47 : decode cX9_fitsSix 47 = .ok (.ifCond .lt 51, 3) := by decide +kernel
theorem dX9_fitsSix_50 : decode cX9_fitsSix 50 = .ok (.iload_n 3, 1) := by decide +kernel
theorem dX9_fitsSix_51 : decode cX9_fitsSix 51 = .ok (.ifCond .lt 47, 3) := by decide +kernel
theorem dX9_fitsSix_54 : decode cX9_fitsSix 54 = .ok (.iload_n 2, 1) := by decide +kernel
theorem dX9_fitsSix_55 : decode cX9_fitsSix 55 = .ok (.iload_n 3, 1) := by decide +kernel
theorem dX9_fitsSix_56 : decode cX9_fitsSix 56 = .ok (.if_icmp .eq 42, 3) := by decide +kernel
theorem dX9_fitsSix_59 : decode cX9_fitsSix 59 = .ok (.aload_n 0, 1) := by decide +kernel
theorem dX9_fitsSix_60 : decode cX9_fitsSix 60 = .ok (.iload_n 2, 1) := by decide +kernel
theorem dX9_fitsSix_61 : decode cX9_fitsSix 61 = .ok (.iconst 1, 1) := by decide +kernel
theorem dX9_fitsSix_62 : decode cX9_fitsSix 62 = .ok (.invokevirtual 436, 3) := by decide +kernel
theorem dX9_fitsSix_65 : decode cX9_fitsSix 65 = .ok (.iload_n 1, 1) := by decide +kernel
theorem dX9_fitsSix_66 : decode cX9_fitsSix 66 = .ok (.if_icmp .ne 32, 3) := by decide +kernel
theorem dX9_fitsSix_69 : decode cX9_fitsSix 69 = .ok (.aload_n 0, 1) := by decide +kernel
theorem dX9_fitsSix_70 : decode cX9_fitsSix 70 = .ok (.getfield 16, 3) := by decide +kernel
theorem dX9_fitsSix_73 : decode cX9_fitsSix 73 = .ok (.bipush 10, 2) := by decide +kernel
theorem dX9_fitsSix_75 : decode cX9_fitsSix 75 = .ok (.iload_n 2, 1) := by decide +kernel
theorem dX9_fitsSix_76 : decode cX9_fitsSix 76 = .ok (.iadd, 1) := by decide +kernel
theorem dX9_fitsSix_77 : decode cX9_fitsSix 77 = .ok (.iaload, 1) := by decide +kernel
theorem dX9_fitsSix_78 : decode cX9_fitsSix 78 = .ok (.aload_n 0, 1) := by decide +kernel
theorem dX9_fitsSix_79 : decode cX9_fitsSix 79 = .ok (.getfield 16, 3) := by decide +kernel
theorem dX9_fitsSix_82 : decode cX9_fitsSix 82 = .ok (.bipush 10, 2) := by decide +kernel
theorem dX9_fitsSix_84 : decode cX9_fitsSix 84 = .ok (.iload_n 3, 1) := by decide +kernel
theorem dX9_fitsSix_85 : decode cX9_fitsSix 85 = .ok (.iadd, 1) := by decide +kernel
theorem dX9_fitsSix_86 : decode cX9_fitsSix 86 = .ok (.iaload, 1) := by decide +kernel
theorem dX9_fitsSix_87 : decode cX9_fitsSix 87 = .ok (.iadd, 1) := by decide +kernel
theorem dX9_fitsSix_88 : decode cX9_fitsSix 88 = .ok (.sipush 999, 3) := by decide +kernel
theorem dX9_fitsSix_91 : decode cX9_fitsSix 91 = .ok (.if_icmp .gt 7, 3) := by decide +kernel
theorem dX9_fitsSix_94 : decode cX9_fitsSix 94 = .ok (.iconst 1, 1) := by decide +kernel
theorem dX9_fitsSix_95 : decode cX9_fitsSix 95 = .ok (.goto 4, 3) := by decide +kernel
theorem dX9_fitsSix_98 : decode cX9_fitsSix 98 = .ok (.iconst 0, 1) := by decide +kernel
theorem dX9_fitsSix_99 : decode cX9_fitsSix 99 = .ok (.istore 4, 2) := by decide +kernel
theorem dX9_fitsSix_101 : decode cX9_fitsSix 101 = .ok (.iconst 0, 1) := by decide +kernel
theorem dX9_fitsSix_102 : decode cX9_fitsSix 102 = .ok (.istore 5, 2) := by decide +kernel
theorem dX9_fitsSix_104 : decode cX9_fitsSix 104 = .ok (.iload 5, 2) := by decide +kernel
theorem dX9_fitsSix_106 : decode cX9_fitsSix 106 = .ok (.bipush 8, 2) := by decide +kernel
theorem dX9_fitsSix_108 : decode cX9_fitsSix 108 = .ok (.if_icmp .ge 46, 3) := by decide +kernel
theorem dX9_fitsSix_111 : decode cX9_fitsSix 111 = .ok (.iload 4, 2) := by decide +kernel
theorem dX9_fitsSix_113 : decode cX9_fitsSix 113 = .ok (.ifCond .eq 41, 3) := by decide +kernel
theorem dX9_fitsSix_116 : decode cX9_fitsSix 116 = .ok (.iload 5, 2) := by decide +kernel
theorem dX9_fitsSix_118 : decode cX9_fitsSix 118 = .ok (.iload_n 1, 1) := by decide +kernel
theorem dX9_fitsSix_119 : decode cX9_fitsSix 119 = .ok (.if_icmp .eq 22, 3) := by decide +kernel
theorem dX9_fitsSix_122 : decode cX9_fitsSix 122 = .ok (.aload_n 0, 1) := by decide +kernel
theorem dX9_fitsSix_123 : decode cX9_fitsSix 123 = .ok (.iload 5, 2) := by decide +kernel
theorem dX9_fitsSix_125 : decode cX9_fitsSix 125 = .ok (.iload_n 2, 1) := by decide +kernel
theorem dX9_fitsSix_126 : decode cX9_fitsSix 126 = .ok (.invokevirtual 418, 3) := by decide +kernel
theorem dX9_fitsSix_129 : decode cX9_fitsSix 129 = .ok (.aload_n 0, 1) := by decide +kernel
theorem dX9_fitsSix_130 : decode cX9_fitsSix 130 = .ok (.iload 5, 2) := by decide +kernel
theorem dX9_fitsSix_132 : decode cX9_fitsSix 132 = .ok (.iload_n 3, 1) := by decide +kernel
theorem dX9_fitsSix_133 : decode cX9_fitsSix 133 = .ok (.invokevirtual 418, 3) := by decide +kernel
theorem dX9_fitsSix_136 : decode cX9_fitsSix 136 = .ok (.iadd, 1) := by decide +kernel
theorem dX9_fitsSix_137 : decode cX9_fitsSix 137 = .ok (.iconst 3, 1) := by decide +kernel
theorem dX9_fitsSix_138 : decode cX9_fitsSix 138 = .ok (.if_icmp .gt 7, 3) := by decide +kernel
theorem dX9_fitsSix_141 : decode cX9_fitsSix 141 = .ok (.iconst 1, 1) := by decide +kernel
theorem dX9_fitsSix_142 : decode cX9_fitsSix 142 = .ok (.goto 4, 3) := by decide +kernel
theorem dX9_fitsSix_145 : decode cX9_fitsSix 145 = .ok (.iconst 0, 1) := by decide +kernel
theorem dX9_fitsSix_146 : decode cX9_fitsSix 146 = .ok (.istore 4, 2) := by decide +kernel
theorem dX9_fitsSix_148 : decode cX9_fitsSix 148 = .ok (.iinc 5 1, 3) := by decide +kernel
theorem dX9_fitsSix_151 : decode cX9_fitsSix 151 = .ok (.goto (-47), 3) := by decide +kernel
theorem dX9_fitsSix_154 : decode cX9_fitsSix 154 = .ok (.iload 4, 2) := by decide +kernel
theorem dX9_fitsSix_156 : decode cX9_fitsSix 156 = .ok (.ifCond .ne 6, 3) := by decide +kernel
theorem dX9_fitsSix_159 : decode cX9_fitsSix 159 = .ok (.goto 73, 3) := by decide +kernel
theorem dX9_fitsSix_162 : decode cX9_fitsSix 162 = .ok (.iconst 0, 1) := by decide +kernel
theorem dX9_fitsSix_163 : decode cX9_fitsSix 163 = .ok (.istore 5, 2) := by decide +kernel
theorem dX9_fitsSix_165 : decode cX9_fitsSix 165 = .ok (.iload 5, 2) := by decide +kernel
theorem dX9_fitsSix_167 : decode cX9_fitsSix 167 = .ok (.bipush 8, 2) := by decide +kernel
theorem dX9_fitsSix_169 : decode cX9_fitsSix 169 = .ok (.if_icmp .ge 32, 3) := by decide +kernel
theorem dX9_fitsSix_172 : decode cX9_fitsSix 172 = .ok (.aload_n 0, 1) := by decide +kernel
theorem dX9_fitsSix_173 : decode cX9_fitsSix 173 = .ok (.getfield 13, 3) := by decide +kernel
theorem dX9_fitsSix_176 : decode cX9_fitsSix 176 = .ok (.aload_n 0, 1) := by decide +kernel
theorem dX9_fitsSix_177 : decode cX9_fitsSix 177 = .ok (.iconst 1, 1) := by decide +kernel
theorem dX9_fitsSix_178 : decode cX9_fitsSix 178 = .ok (.iload 5, 2) := by decide +kernel
theorem dX9_fitsSix_180 : decode cX9_fitsSix 180 = .ok (.iload_n 3, 1) := by decide +kernel
theorem dX9_fitsSix_181 : decode cX9_fitsSix 181 = .ok (.invokevirtual 144, 3) := by decide +kernel
theorem dX9_fitsSix_184 : decode cX9_fitsSix 184 = .ok (.dup2, 1) := by decide +kernel
theorem dX9_fitsSix_185 : decode cX9_fitsSix 185 = .ok (.iaload, 1) := by decide +kernel
theorem dX9_fitsSix_186 : decode cX9_fitsSix 186 = .ok (.aload_n 0, 1) := by decide +kernel
theorem dX9_fitsSix_187 : decode cX9_fitsSix 187 = .ok (.iload 5, 2) := by decide +kernel
theorem dX9_fitsSix_189 : decode cX9_fitsSix 189 = .ok (.iload_n 2, 1) := by decide +kernel
theorem dX9_fitsSix_190 : decode cX9_fitsSix 190 = .ok (.invokevirtual 418, 3) := by decide +kernel
theorem dX9_fitsSix_193 : decode cX9_fitsSix 193 = .ok (.iadd, 1) := by decide +kernel
theorem dX9_fitsSix_194 : decode cX9_fitsSix 194 = .ok (.iastore, 1) := by decide +kernel
theorem dX9_fitsSix_195 : decode cX9_fitsSix 195 = .ok (.iinc 5 1, 3) := by decide +kernel
theorem dX9_fitsSix_198 : decode cX9_fitsSix 198 = .ok (.goto (-33), 3) := by decide +kernel
theorem dX9_fitsSix_201 : decode cX9_fitsSix 201 = .ok (.aload_n 0, 1) := by decide +kernel
theorem dX9_fitsSix_202 : decode cX9_fitsSix 202 = .ok (.getfield 16, 3) := by decide +kernel
theorem dX9_fitsSix_205 : decode cX9_fitsSix 205 = .ok (.bipush 10, 2) := by decide +kernel
theorem dX9_fitsSix_207 : decode cX9_fitsSix 207 = .ok (.iload_n 3, 1) := by decide +kernel
theorem dX9_fitsSix_208 : decode cX9_fitsSix 208 = .ok (.iadd, 1) := by decide +kernel
theorem dX9_fitsSix_209 : decode cX9_fitsSix 209 = .ok (.dup2, 1) := by decide +kernel
theorem dX9_fitsSix_210 : decode cX9_fitsSix 210 = .ok (.iaload, 1) := by decide +kernel
theorem dX9_fitsSix_211 : decode cX9_fitsSix 211 = .ok (.aload_n 0, 1) := by decide +kernel
theorem dX9_fitsSix_212 : decode cX9_fitsSix 212 = .ok (.getfield 16, 3) := by decide +kernel
theorem dX9_fitsSix_215 : decode cX9_fitsSix 215 = .ok (.bipush 10, 2) := by decide +kernel
theorem dX9_fitsSix_217 : decode cX9_fitsSix 217 = .ok (.iload_n 2, 1) := by decide +kernel
theorem dX9_fitsSix_218 : decode cX9_fitsSix 218 = .ok (.iadd, 1) := by decide +kernel
theorem dX9_fitsSix_219 : decode cX9_fitsSix 219 = .ok (.iaload, 1) := by decide +kernel
theorem dX9_fitsSix_220 : decode cX9_fitsSix 220 = .ok (.iadd, 1) := by decide +kernel
theorem dX9_fitsSix_221 : decode cX9_fitsSix 221 = .ok (.iastore, 1) := by decide +kernel
theorem dX9_fitsSix_222 : decode cX9_fitsSix 222 = .ok (.aload_n 0, 1) := by decide +kernel
theorem dX9_fitsSix_223 : decode cX9_fitsSix 223 = .ok (.bipush 6, 2) := by decide +kernel
theorem dX9_fitsSix_225 : decode cX9_fitsSix 225 = .ok (.iload_n 2, 1) := by decide +kernel
theorem dX9_fitsSix_226 : decode cX9_fitsSix 226 = .ok (.iload_n 1, 1) := by decide +kernel
theorem dX9_fitsSix_227 : decode cX9_fitsSix 227 = .ok (.invokevirtual 427, 3) := by decide +kernel
theorem dX9_fitsSix_230 : decode cX9_fitsSix 230 = .ok (.iconst 1, 1) := by decide +kernel
theorem dX9_fitsSix_231 : decode cX9_fitsSix 231 = .ok (.ireturn, 1) := by decide +kernel
theorem dX9_fitsSix_232 : decode cX9_fitsSix 232 = .ok (.iinc 1 1, 3) := by decide +kernel
theorem dX9_fitsSix_235 : decode cX9_fitsSix 235 = .ok (.goto (-233), 3) := by decide +kernel
theorem dX9_fitsSix_238 : decode cX9_fitsSix 238 = .ok (.iconst 0, 1) := by decide +kernel
theorem dX9_fitsSix_239 : decode cX9_fitsSix 239 = .ok (.ireturn, 1) := by decide +kernel
theorem dX9_layReduced_0 : decode cX9_layReduced 0 = .ok (.aload_n 0, 1) := by decide +kernel
theorem dX9_layReduced_1 : decode cX9_layReduced 1 = .ok (.iconst 0, 1) := by decide +kernel
theorem dX9_layReduced_2 : decode cX9_layReduced 2 = .ok (.iconst 1, 1) := by decide +kernel
theorem dX9_layReduced_3 : decode cX9_layReduced 3 = .ok (.invokevirtual 244, 3) := by decide +kernel
theorem dX9_layReduced_6 : decode cX9_layReduced 6 = .ok (.aload_n 0, 1) := by decide +kernel
theorem dX9_layReduced_7 : decode cX9_layReduced 7 = .ok (.iconst 0, 1) := by decide +kernel
theorem dX9_layReduced_8 : decode cX9_layReduced 8 = .ok (.putfield 412, 3) := by decide +kernel
theorem dX9_layReduced_11 : decode cX9_layReduced 11 = .ok (.iconst 1, 1) := by decide +kernel
theorem dX9_layReduced_12 : decode cX9_layReduced 12 = .ok (.istore_n 1, 1) := by decide +kernel
theorem dX9_layReduced_13 : decode cX9_layReduced 13 = .ok (.iload_n 1, 1) := by decide +kernel
theorem dX9_layReduced_14 : decode cX9_layReduced 14 = .ok (.ifCond .eq 54, 3) := by decide +kernel
theorem dX9_layReduced_17 : decode cX9_layReduced 17 = .ok (.aload_n 0, 1) := by decide +kernel
theorem dX9_layReduced_18 : decode cX9_layReduced 18 = .ok (.invokevirtual 442, 3) := by decide +kernel
theorem dX9_layReduced_21 : decode cX9_layReduced 21 = .ok (.ifCond .ne 38, 3) := by decide +kernel
theorem dX9_layReduced_24 : decode cX9_layReduced 24 = .ok (.aload_n 0, 1) := by decide +kernel
theorem dX9_layReduced_25 : decode cX9_layReduced 25 = .ok (.invokevirtual 445, 3) := by decide +kernel
theorem dX9_layReduced_28 : decode cX9_layReduced 28 = .ok (.ifCond .ne 31, 3) := by decide +kernel
theorem dX9_layReduced_31 : decode cX9_layReduced 31 = .ok (.aload_n 0, 1) := by decide +kernel
theorem dX9_layReduced_32 : decode cX9_layReduced 32 = .ok (.invokevirtual 448, 3) := by decide +kernel
theorem dX9_layReduced_35 : decode cX9_layReduced 35 = .ok (.ifCond .ne 24, 3) := by decide +kernel
theorem dX9_layReduced_38 : decode cX9_layReduced 38 = .ok (.aload_n 0, 1) := by decide +kernel
theorem dX9_layReduced_39 : decode cX9_layReduced 39 = .ok (.invokevirtual 451, 3) := by decide +kernel
theorem dX9_layReduced_42 : decode cX9_layReduced 42 = .ok (.ifCond .ne 17, 3) := by decide +kernel
theorem dX9_layReduced_45 : decode cX9_layReduced 45 = .ok (.aload_n 0, 1) := by decide +kernel
theorem dX9_layReduced_46 : decode cX9_layReduced 46 = .ok (.invokevirtual 454, 3) := by decide +kernel
theorem dX9_layReduced_49 : decode cX9_layReduced 49 = .ok (.ifCond .ne 10, 3) := by decide +kernel
theorem dX9_layReduced_52 : decode cX9_layReduced 52 = .ok (.aload_n 0, 1) := by decide +kernel
theorem dX9_layReduced_53 : decode cX9_layReduced 53 = .ok (.invokevirtual 457, 3) := by decide +kernel
theorem dX9_layReduced_56 : decode cX9_layReduced 56 = .ok (.ifCond .eq 7, 3) := by decide +kernel
theorem dX9_layReduced_59 : decode cX9_layReduced 59 = .ok (.iconst 1, 1) := by decide +kernel
theorem dX9_layReduced_60 : decode cX9_layReduced 60 = .ok (.goto 4, 3) := by decide +kernel
theorem dX9_layReduced_63 : decode cX9_layReduced 63 = .ok (.iconst 0, 1) := by decide +kernel
theorem dX9_layReduced_64 : decode cX9_layReduced 64 = .ok (.istore_n 1, 1) := by decide +kernel
theorem dX9_layReduced_65 : decode cX9_layReduced 65 = .ok (.goto (-52), 3) := by decide +kernel
theorem dX9_layReduced_68 : decode cX9_layReduced 68 = .ok (.return_, 1) := by decide +kernel
theorem dX9_reduce_0 : decode cX9_reduce 0 = .ok (.aload_n 0, 1) := by decide +kernel
theorem dX9_reduce_1 : decode cX9_reduce 1 = .ok (.iconst 0, 1) := by decide +kernel
theorem dX9_reduce_2 : decode cX9_reduce 2 = .ok (.putfield 133, 3) := by decide +kernel
theorem dX9_reduce_5 : decode cX9_reduce 5 = .ok (.aload_n 0, 1) := by decide +kernel
theorem dX9_reduce_6 : decode cX9_reduce 6 = .ok (.invokevirtual 460, 3) := by decide +kernel
theorem dX9_reduce_9 : decode cX9_reduce 9 = .ok (.aload_n 0, 1) := by decide +kernel
theorem dX9_reduce_10 : decode cX9_reduce 10 = .ok (.getfield 412, 3) := by decide +kernel
theorem dX9_reduce_13 : decode cX9_reduce 13 = .ok (.ireturn, 1) := by decide +kernel
theorem dX9_rule_0 : decode cX9_rule 0 = .ok (.aload_n 0, 1) := by decide +kernel
theorem dX9_rule_1 : decode cX9_rule 1 = .ok (.iconst 0, 1) := by decide +kernel
theorem dX9_rule_2 : decode cX9_rule 2 = .ok (.putfield 133, 3) := by decide +kernel
theorem dX9_rule_5 : decode cX9_rule 5 = .ok (.aload_n 0, 1) := by decide +kernel
theorem dX9_rule_6 : decode cX9_rule 6 = .ok (.invokevirtual 460, 3) := by decide +kernel
theorem dX9_rule_9 : decode cX9_rule 9 = .ok (.iload_n 1, 1) := by decide +kernel
theorem dX9_rule_10 : decode cX9_rule 10 = .ok (.iconst 0, 1) := by decide +kernel
theorem dX9_rule_11 : decode cX9_rule 11 = .ok (.aload_n 0, 1) := by decide +kernel
theorem dX9_rule_12 : decode cX9_rule 12 = .ok (.getfield 412, 3) := by decide +kernel
theorem dX9_rule_15 : decode cX9_rule 15 = .ok (.iconst 1, 1) := by decide +kernel
theorem dX9_rule_16 : decode cX9_rule 16 = .ok (.isub, 1) := by decide +kernel
theorem dX9_rule_17 : decode cX9_rule 17 = .ok (.invokestatic 136, 3) := by decide +kernel
theorem dX9_rule_20 : decode cX9_rule 20 = .ok (.ifCond .eq 12, 3) := by decide +kernel
theorem dX9_rule_23 : decode cX9_rule 23 = .ok (.iload_n 2, 1) := by decide +kernel
theorem dX9_rule_24 : decode cX9_rule 24 = .ok (.iconst 0, 1) := by decide +kernel
theorem dX9_rule_25 : decode cX9_rule 25 = .ok (.iconst 2, 1) := by decide +kernel
theorem dX9_rule_26 : decode cX9_rule 26 = .ok (.invokestatic 136, 3) := by decide +kernel
theorem dX9_rule_29 : decode cX9_rule 29 = .ok (.ifCond .ne 5, 3) := by decide +kernel
theorem dX9_rule_32 : decode cX9_rule 32 = .ok (.iconst (-1), 1) := by decide +kernel
theorem dX9_rule_33 : decode cX9_rule 33 = .ok (.ireturn, 1) := by decide +kernel
theorem dX9_rule_34 : decode cX9_rule 34 = .ok (.iload_n 2, 1) := by decide +kernel
theorem dX9_rule_35 : decode cX9_rule 35 = .ok (.ifCond .ne 12, 3) := by decide +kernel
theorem dX9_rule_38 : decode cX9_rule 38 = .ok (.aload_n 0, 1) := by decide +kernel
theorem dX9_rule_39 : decode cX9_rule 39 = .ok (.getfield 124, 3) := by decide +kernel
theorem dX9_rule_42 : decode cX9_rule 42 = .ok (.iload_n 1, 1) := by decide +kernel
theorem dX9_rule_43 : decode cX9_rule 43 = .ok (.iaload, 1) := by decide +kernel
theorem dX9_rule_44 : decode cX9_rule 44 = .ok (.goto 23, 3) := by decide +kernel
theorem dX9_rule_47 : decode cX9_rule 47 = .ok (.iload_n 2, 1) := by decide +kernel
theorem dX9_rule_48 : decode cX9_rule 48 = .ok (.iconst 1, 1) := by decide +kernel
theorem dX9_rule_49 : decode cX9_rule 49 = .ok (.if_icmp .ne 12, 3) := by decide +kernel
theorem dX9_rule_52 : decode cX9_rule 52 = .ok (.aload_n 0, 1) := by decide +kernel
theorem dX9_rule_53 : decode cX9_rule 53 = .ok (.getfield 127, 3) := by decide +kernel
theorem dX9_rule_56 : decode cX9_rule 56 = .ok (.iload_n 1, 1) := by decide +kernel
theorem dX9_rule_57 : decode cX9_rule 57 = .ok (.iaload, 1) := by decide +kernel
theorem dX9_rule_58 : decode cX9_rule 58 = .ok (.goto 9, 3) := by decide +kernel
theorem dX9_rule_61 : decode cX9_rule 61 = .ok (.aload_n 0, 1) := by decide +kernel
theorem dX9_rule_62 : decode cX9_rule 62 = .ok (.getfield 130, 3) := by decide +kernel
theorem dX9_rule_65 : decode cX9_rule 65 = .ok (.iload_n 1, 1) := by decide +kernel
theorem dX9_rule_66 : decode cX9_rule 66 = .ok (.iaload, 1) := by decide +kernel
theorem dX9_rule_67 : decode cX9_rule 67 = .ok (.ireturn, 1) := by decide +kernel
theorem dX9_reduced_0 : decode cX9_reduced 0 = .ok (.aload_n 0, 1) := by decide +kernel
theorem dX9_reduced_1 : decode cX9_reduced 1 = .ok (.iconst 0, 1) := by decide +kernel
theorem dX9_reduced_2 : decode cX9_reduced 2 = .ok (.putfield 133, 3) := by decide +kernel
theorem dX9_reduced_5 : decode cX9_reduced 5 = .ok (.iload_n 1, 1) := by decide +kernel
theorem dX9_reduced_6 : decode cX9_reduced 6 = .ok (.iconst 0, 1) := by decide +kernel
theorem dX9_reduced_7 : decode cX9_reduced 7 = .ok (.iconst 5, 1) := by decide +kernel
theorem dX9_reduced_8 : decode cX9_reduced 8 = .ok (.invokestatic 136, 3) := by decide +kernel
theorem dX9_reduced_11 : decode cX9_reduced 11 = .ok (.ifCond .ne 5, 3) := by decide +kernel
theorem dX9_reduced_14 : decode cX9_reduced 14 = .ok (.iconst (-1), 1) := by decide +kernel
theorem dX9_reduced_15 : decode cX9_reduced 15 = .ok (.ireturn, 1) := by decide +kernel
theorem dX9_reduced_16 : decode cX9_reduced 16 = .ok (.aload_n 0, 1) := by decide +kernel
theorem dX9_reduced_17 : decode cX9_reduced 17 = .ok (.invokevirtual 460, 3) := by decide +kernel
theorem dX9_reduced_20 : decode cX9_reduced 20 = .ok (.iload_n 1, 1) := by decide +kernel
theorem dX9_reduced_21 : decode cX9_reduced 21 = .ok (.iconst 2, 1) := by decide +kernel
theorem dX9_reduced_22 : decode cX9_reduced 22 = .ok (.if_icmp .ge 23, 3) := by decide +kernel
theorem dX9_reduced_25 : decode cX9_reduced 25 = .ok (.iload_n 1, 1) := by decide +kernel
theorem dX9_reduced_26 : decode cX9_reduced 26 = .ok (.ifCond .ne 12, 3) := by decide +kernel
theorem dX9_reduced_29 : decode cX9_reduced 29 = .ok (.aload_n 0, 1) := by decide +kernel
theorem dX9_reduced_30 : decode cX9_reduced 30 = .ok (.getfield 19, 3) := by decide +kernel
theorem dX9_reduced_33 : decode cX9_reduced 33 = .ok (.iconst 1, 1) := by decide +kernel
theorem dX9_reduced_34 : decode cX9_reduced 34 = .ok (.iaload, 1) := by decide +kernel
theorem dX9_reduced_35 : decode cX9_reduced 35 = .ok (.goto 9, 3) := by decide +kernel
theorem dX9_reduced_38 : decode cX9_reduced 38 = .ok (.aload_n 0, 1) := by decide +kernel
theorem dX9_reduced_39 : decode cX9_reduced 39 = .ok (.getfield 22, 3) := by decide +kernel
theorem dX9_reduced_42 : decode cX9_reduced 42 = .ok (.iconst 1, 1) := by decide +kernel
theorem dX9_reduced_43 : decode cX9_reduced 43 = .ok (.iaload, 1) := by decide +kernel
theorem dX9_reduced_44 : decode cX9_reduced 44 = .ok (.ireturn, 1) := by decide +kernel
theorem dX9_reduced_45 : decode cX9_reduced 45 = .ok (.aload_n 0, 1) := by decide +kernel
theorem dX9_reduced_46 : decode cX9_reduced 46 = .ok (.iconst 1, 1) := by decide +kernel
theorem dX9_reduced_47 : decode cX9_reduced 47 = .ok (.invokevirtual 385, 3) := by decide +kernel
theorem dX9_reduced_50 : decode cX9_reduced 50 = .ok (.iconst 0, 1) := by decide +kernel
theorem dX9_reduced_51 : decode cX9_reduced 51 = .ok (.istore_n 2, 1) := by decide +kernel
theorem dX9_reduced_52 : decode cX9_reduced 52 = .ok (.iconst 0, 1) := by decide +kernel
theorem dX9_reduced_53 : decode cX9_reduced 53 = .ok (.istore_n 3, 1) := by decide +kernel
theorem dX9_reduced_54 : decode cX9_reduced 54 = .ok (.iload_n 3, 1) := by decide +kernel
theorem dX9_reduced_55 : decode cX9_reduced 55 = .ok (.bipush 8, 2) := by decide +kernel
theorem dX9_reduced_57 : decode cX9_reduced 57 = .ok (.if_icmp .ge 41, 3) := by decide +kernel
theorem dX9_reduced_60 : decode cX9_reduced 60 = .ok (.iload_n 1, 1) := by decide +kernel
theorem dX9_reduced_61 : decode cX9_reduced 61 = .ok (.iconst 4, 1) := by decide +kernel
theorem dX9_reduced_62 : decode cX9_reduced 62 = .ok (.if_icmp .ne 36, 3) := by decide +kernel
theorem dX9_reduced_65 : decode cX9_reduced 65 = .ok (.iload_n 2, 1) := by decide +kernel
theorem dX9_reduced_66 : decode cX9_reduced 66 = .ok (.aload_n 0, 1) := by decide +kernel
theorem dX9_reduced_67 : decode cX9_reduced 67 = .ok (.iload_n 3, 1) := by decide +kernel
theorem dX9_reduced_68 : decode cX9_reduced 68 = .ok (.invokevirtual 430, 3) := by decide +kernel
theorem dX9_reduced_71 : decode cX9_reduced 71 = .ok (.ifCond .eq 18, 3) := by decide +kernel
theorem dX9_reduced_74 : decode cX9_reduced 74 = .ok (.aload_n 0, 1) := by decide +kernel
theorem dX9_reduced_75 : decode cX9_reduced 75 = .ok (.iconst 1, 1) := by decide +kernel
theorem dX9_reduced_76 : decode cX9_reduced 76 = .ok (.iload_n 3, 1) := by decide +kernel
theorem dX9_reduced_77 : decode cX9_reduced 77 = .ok (.invokevirtual 406, 3) := by decide +kernel
theorem dX9_reduced_80 : decode cX9_reduced 80 = .ok (.ifCond .eq 9, 3) := by decide +kernel
theorem dX9_reduced_83 : decode cX9_reduced 83 = .ok (.iconst 1, 1) := by decide +kernel
theorem dX9_reduced_84 : decode cX9_reduced 84 = .ok (.iload_n 3, 1) := by decide +kernel
theorem dX9_reduced_85 : decode cX9_reduced 85 = .ok (.ishl, 1) := by decide +kernel
theorem dX9_reduced_86 : decode cX9_reduced 86 = .ok (.goto 4, 3) := by decide +kernel
theorem dX9_reduced_89 : decode cX9_reduced 89 = .ok (.iconst 0, 1) := by decide +kernel
theorem dX9_reduced_90 : decode cX9_reduced 90 = .ok (.ior, 1) := by decide +kernel
theorem dX9_reduced_91 : decode cX9_reduced 91 = .ok (.istore_n 2, 1) := by decide +kernel
theorem dX9_reduced_92 : decode cX9_reduced 92 = .ok (.iinc 3 1, 3) := by decide +kernel
theorem dX9_reduced_95 : decode cX9_reduced 95 = .ok (.goto (-41), 3) := by decide +kernel
theorem dX9_reduced_98 : decode cX9_reduced 98 = .ok (.iload_n 1, 1) := by decide +kernel
theorem dX9_reduced_99 : decode cX9_reduced 99 = .ok (.iconst 2, 1) := by decide +kernel
theorem dX9_reduced_100 : decode cX9_reduced 100 = .ok (.if_icmp .ne 12, 3) := by decide +kernel
theorem dX9_reduced_103 : decode cX9_reduced 103 = .ok (.aload_n 0, 1) := by decide +kernel
theorem dX9_reduced_104 : decode cX9_reduced 104 = .ok (.getfield 103, 3) := by decide +kernel
theorem dX9_reduced_107 : decode cX9_reduced 107 = .ok (.iconst 1, 1) := by decide +kernel
theorem dX9_reduced_108 : decode cX9_reduced 108 = .ok (.iaload, 1) := by decide +kernel
theorem dX9_reduced_109 : decode cX9_reduced 109 = .ok (.goto 39, 3) := by decide +kernel
theorem dX9_reduced_112 : decode cX9_reduced 112 = .ok (.iload_n 1, 1) := by decide +kernel
theorem dX9_reduced_113 : decode cX9_reduced 113 = .ok (.iconst 3, 1) := by decide +kernel
theorem dX9_reduced_114 : decode cX9_reduced 114 = .ok (.if_icmp .ne 20, 3) := by decide +kernel
theorem dX9_reduced_117 : decode cX9_reduced 117 = .ok (.aload_n 0, 1) := by decide +kernel
theorem dX9_reduced_118 : decode cX9_reduced 118 = .ok (.getfield 112, 3) := by decide +kernel
theorem dX9_reduced_121 : decode cX9_reduced 121 = .ok (.iconst 1, 1) := by decide +kernel
theorem dX9_reduced_122 : decode cX9_reduced 122 = .ok (.baload, 1) := by decide +kernel
theorem dX9_reduced_123 : decode cX9_reduced 123 = .ok (.ifCond .eq 7, 3) := by decide +kernel
theorem dX9_reduced_126 : decode cX9_reduced 126 = .ok (.iconst 1, 1) := by decide +kernel
theorem dX9_reduced_127 : decode cX9_reduced 127 = .ok (.goto 21, 3) := by decide +kernel
theorem dX9_reduced_130 : decode cX9_reduced 130 = .ok (.iconst 0, 1) := by decide +kernel
theorem dX9_reduced_131 : decode cX9_reduced 131 = .ok (.goto 17, 3) := by decide +kernel
theorem dX9_reduced_134 : decode cX9_reduced 134 = .ok (.iload_n 1, 1) := by decide +kernel
theorem dX9_reduced_135 : decode cX9_reduced 135 = .ok (.iconst 4, 1) := by decide +kernel
theorem dX9_reduced_136 : decode cX9_reduced 136 = .ok (.if_icmp .ne 7, 3) := by decide +kernel
theorem dX9_reduced_139 : decode cX9_reduced 139 = .ok (.iload_n 2, 1) := by decide +kernel
theorem dX9_reduced_140 : decode cX9_reduced 140 = .ok (.goto 8, 3) := by decide +kernel
theorem dX9_reduced_143 : decode cX9_reduced 143 = .ok (.aload_n 0, 1) := by decide +kernel
theorem dX9_reduced_144 : decode cX9_reduced 144 = .ok (.iconst 1, 1) := by decide +kernel
theorem dX9_reduced_145 : decode cX9_reduced 145 = .ok (.invokevirtual 400, 3) := by decide +kernel
theorem dX9_reduced_148 : decode cX9_reduced 148 = .ok (.ireturn, 1) := by decide +kernel
theorem dX9_become_0 : decode cX9_become 0 = .ok (.aload_n 0, 1) := by decide +kernel
theorem dX9_become_1 : decode cX9_become 1 = .ok (.iconst 0, 1) := by decide +kernel
theorem dX9_become_2 : decode cX9_become 2 = .ok (.putfield 133, 3) := by decide +kernel
theorem dX9_become_5 : decode cX9_become 5 = .ok (.aload_n 0, 1) := by decide +kernel
theorem dX9_become_6 : decode cX9_become 6 = .ok (.invokevirtual 460, 3) := by decide +kernel
theorem dX9_become_9 : decode cX9_become 9 = .ok (.aload_n 0, 1) := by decide +kernel
theorem dX9_become_10 : decode cX9_become 10 = .ok (.getfield 412, 3) := by decide +kernel
theorem dX9_become_13 : decode cX9_become 13 = .ok (.ifCond .ne 5, 3) := by decide +kernel
theorem dX9_become_16 : decode cX9_become 16 = .ok (.iconst (-1), 1) := by decide +kernel
theorem dX9_become_17 : decode cX9_become 17 = .ok (.ireturn, 1) := by decide +kernel
theorem dX9_become_18 : decode cX9_become 18 = .ok (.aload_n 0, 1) := by decide +kernel
theorem dX9_become_19 : decode cX9_become 19 = .ok (.invokevirtual 296, 3) := by decide +kernel
theorem dX9_become_22 : decode cX9_become 22 = .ok (.aload_n 0, 1) := by decide +kernel
theorem dX9_become_23 : decode cX9_become 23 = .ok (.iconst 1, 1) := by decide +kernel
theorem dX9_become_24 : decode cX9_become 24 = .ok (.iconst 0, 1) := by decide +kernel
theorem dX9_become_25 : decode cX9_become 25 = .ok (.invokevirtual 244, 3) := by decide +kernel
theorem dX9_become_28 : decode cX9_become 28 = .ok (.aload_n 0, 1) := by decide +kernel
theorem dX9_become_29 : decode cX9_become 29 = .ok (.invokevirtual 250, 3) := by decide +kernel
theorem dX9_become_32 : decode cX9_become 32 = .ok (.aload_n 0, 1) := by decide +kernel
theorem dX9_become_33 : decode cX9_become 33 = .ok (.getfield 412, 3) := by decide +kernel
theorem dX9_become_36 : decode cX9_become 36 = .ok (.ireturn, 1) := by decide +kernel
