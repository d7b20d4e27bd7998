theorem dX11_isIn_0 : decode cX11_isIn 0 = .ok (.iload_n 0, 1) := by decide +kernel
theorem dX11_isIn_1 : decode cX11_isIn 1 = .ok (.iload_n 1, 1) := by decide +kernel
theorem dX11_isIn_2 : decode cX11_isIn 2 = .ok (.if_icmp .lt 12, 3) := by decide +kernel
theorem dX11_isIn_5 : decode cX11_isIn 5 = .ok (.iload_n 0, 1) := by decide +kernel
theorem dX11_isIn_6 : decode cX11_isIn 6 = .ok (.iload_n 2, 1) := by decide +kernel
theorem dX11_isIn_7 : decode cX11_isIn 7 = .ok (.if_icmp .gt 7, 3) := by decide +kernel
theorem dX11_isIn_10 : decode cX11_isIn 10 = .ok (.iconst 1, 1) := by decide +kernel
theorem dX11_isIn_11 : decode cX11_isIn 11 = .ok (.goto 4, 3) := by decide +kernel
theorem dX11_isIn_14 : decode cX11_isIn 14 = .ok (.iconst 0, 1) := by decide +kernel
theorem dX11_isIn_15 : decode cX11_isIn 15 = .ok (.ireturn, 1) := by decide +kernel
theorem dX11_isYear_0 : decode cX11_isYear 0 = .ok (.iload_n 0, 1) := by decide +kernel
theorem dX11_isYear_1 : decode cX11_isYear 1 = .ok (.iconst 0, 1) := by decide +kernel
theorem dX11_isYear_2 : decode cX11_isYear 2 = .ok (.iconst 1, 1) := by decide +kernel
theorem dX11_isYear_3 : decode cX11_isYear 3 = .ok (.invokestatic 1, 3) := by decide +kernel
theorem dX11_isYear_6 : decode cX11_isYear 6 = .ok (.ireturn, 1) := by decide +kernel
theorem dX11_isLand_0 : decode cX11_isLand 0 = .ok (.iload_n 0, 1) := by decide +kernel
theorem dX11_isLand_1 : decode cX11_isLand 1 = .ok (.iconst 0, 1) := by decide +kernel
theorem dX11_isLand_2 : decode cX11_isLand 2 = .ok (.iconst 5, 1) := by decide +kernel
theorem dX11_isLand_3 : decode cX11_isLand 3 = .ok (.invokestatic 1, 3) := by decide +kernel
theorem dX11_isLand_6 : decode cX11_isLand 6 = .ok (.ireturn, 1) := by decide +kernel
theorem dX11_count_0 : decode cX11_count 0 = .ok (.iconst 0, 1) := by decide +kernel
theorem dX11_count_1 : decode cX11_count 1 = .ok (.istore_n 1, 1) := by decide +kernel
theorem dX11_count_2 : decode cX11_count 2 = .ok (.iconst 0, 1) := by decide +kernel
theorem dX11_count_3 : decode cX11_count 3 = .ok (.istore_n 2, 1) := by decide +kernel
theorem dX11_count_4 : decode cX11_count 4 = .ok (.iload_n 2, 1) := by decide +kernel
theorem dX11_count_5 : decode cX11_count 5 = .ok (.bipush 12, 2) := by decide +kernel
theorem dX11_count_7 : decode cX11_count 7 = .ok (.if_icmp .ge 17, 3) := by decide +kernel
theorem dX11_count_10 : decode cX11_count 10 = .ok (.iload_n 1, 1) := by decide +kernel
theorem dX11_count_11 : decode cX11_count 11 = .ok (.iload_n 0, 1) := by decide +kernel
theorem dX11_count_12 : decode cX11_count 12 = .ok (.iload_n 2, 1) := by decide +kernel
theorem dX11_count_13 : decode cX11_count 13 = .ok (.ishr, 1) := by decide +kernel
theorem dX11_count_14 : decode cX11_count 14 = .ok (.iconst 1, 1) := by decide +kernel
theorem dX11_count_15 : decode cX11_count 15 = .ok (.iand, 1) := by decide +kernel
theorem dX11_count_16 : decode cX11_count 16 = .ok (.iadd, 1) := by decide +kernel
theorem dX11_count_17 : decode cX11_count 17 = .ok (.istore_n 1, 1) := by decide +kernel
theorem dX11_count_18 : decode cX11_count 18 = .ok (.iinc 2 1, 3) := by decide +kernel
theorem dX11_count_21 : decode cX11_count 21 = .ok (.goto (-17), 3) := by decide +kernel
theorem dX11_count_24 : decode cX11_count 24 = .ok (.iload_n 1, 1) := by decide +kernel
theorem dX11_count_25 : decode cX11_count 25 = .ok (.ireturn, 1) := by decide +kernel
theorem dX11_init_0 : decode cX11_init 0 = .ok (.aload_n 0, 1) := by decide +kernel
theorem dX11_init_1 : decode cX11_init 1 = .ok (.invokespecial 7, 3) := by decide +kernel
theorem dX11_init_4 : decode cX11_init 4 = .ok (.aload_n 0, 1) := by decide +kernel
theorem dX11_init_5 : decode cX11_init 5 = .ok (.sipush 720, 3) := by decide +kernel
theorem dX11_init_8 : decode cX11_init 8 = .ok (.newarray .int, 2) := by decide +kernel
theorem dX11_init_10 : decode cX11_init 10 = .ok (.putfield 13, 3) := by decide +kernel
theorem dX11_init_13 : decode cX11_init 13 = .ok (.aload_n 0, 1) := by decide +kernel
theorem dX11_init_14 : decode cX11_init 14 = .ok (.iconst 2, 1) := by decide +kernel
theorem dX11_init_15 : decode cX11_init 15 = .ok (.newarray .int, 2) := by decide +kernel
theorem dX11_init_17 : decode cX11_init 17 = .ok (.putfield 17, 3) := by decide +kernel
theorem dX11_init_20 : decode cX11_init 20 = .ok (.aload_n 0, 1) := by decide +kernel
theorem dX11_init_21 : decode cX11_init 21 = .ok (.iconst 4, 1) := by decide +kernel
theorem dX11_init_22 : decode cX11_init 22 = .ok (.newarray .int, 2) := by decide +kernel
theorem dX11_init_24 : decode cX11_init 24 = .ok (.dup, 1) := by decide +kernel
theorem dX11_init_25 : decode cX11_init 25 = .ok (.iconst 0, 1) := by decide +kernel
theorem dX11_init_26 : decode cX11_init 26 = .ok (.iconst (-1), 1) := by decide +kernel
theorem dX11_init_27 : decode cX11_init 27 = .ok (.iastore, 1) := by decide +kernel
theorem dX11_init_28 : decode cX11_init 28 = .ok (.dup, 1) := by decide +kernel
theorem dX11_init_29 : decode cX11_init 29 = .ok (.iconst 1, 1) := by decide +kernel
theorem dX11_init_30 : decode cX11_init 30 = .ok (.iconst (-1), 1) := by decide +kernel
theorem dX11_init_31 : decode cX11_init 31 = .ok (.iastore, 1) := by decide +kernel
theorem dX11_init_32 : decode cX11_init 32 = .ok (.dup, 1) := by decide +kernel
theorem dX11_init_33 : decode cX11_init 33 = .ok (.iconst 2, 1) := by decide +kernel
theorem dX11_init_34 : decode cX11_init 34 = .ok (.iconst (-1), 1) := by decide +kernel
theorem dX11_init_35 : decode cX11_init 35 = .ok (.iastore, 1) := by decide +kernel
theorem dX11_init_36 : decode cX11_init 36 = .ok (.dup, 1) := by decide +kernel
theorem dX11_init_37 : decode cX11_init 37 = .ok (.iconst 3, 1) := by decide +kernel
theorem dX11_init_38 : decode cX11_init 38 = .ok (.iconst (-1), 1) := by decide +kernel
theorem dX11_init_39 : decode cX11_init 39 = .ok (.iastore, 1) := by decide +kernel
theorem dX11_init_40 : decode cX11_init 40 = .ok (.putfield 20, 3) := by decide +kernel
theorem dX11_init_43 : decode cX11_init 43 = .ok (.aload_n 0, 1) := by decide +kernel
theorem dX11_init_44 : decode cX11_init 44 = .ok (.iconst 2, 1) := by decide +kernel
theorem dX11_init_45 : decode cX11_init 45 = .ok (.newarray .int, 2) := by decide +kernel
theorem dX11_init_47 : decode cX11_init 47 = .ok (.putfield 23, 3) := by decide +kernel
theorem dX11_init_50 : decode cX11_init 50 = .ok (.aload_n 0, 1) := by decide +kernel
theorem dX11_init_51 : decode cX11_init 51 = .ok (.bipush 24, 2) := by decide +kernel
theorem dX11_init_53 : decode cX11_init 53 = .ok (.newarray .int, 2) := by decide +kernel
theorem dX11_init_55 : decode cX11_init 55 = .ok (.putfield 26, 3) := by decide +kernel
theorem dX11_init_58 : decode cX11_init 58 = .ok (.aload_n 0, 1) := by decide +kernel
theorem dX11_init_59 : decode cX11_init 59 = .ok (.bipush 24, 2) := by decide +kernel
theorem dX11_init_61 : decode cX11_init 61 = .ok (.newarray .int, 2) := by decide +kernel
theorem dX11_init_63 : decode cX11_init 63 = .ok (.putfield 29, 3) := by decide +kernel
theorem dX11_init_66 : decode cX11_init 66 = .ok (.aload_n 0, 1) := by decide +kernel
theorem dX11_init_67 : decode cX11_init 67 = .ok (.bipush 24, 2) := by decide +kernel
theorem dX11_init_69 : decode cX11_init 69 = .ok (.newarray .int, 2) := by decide +kernel
theorem dX11_init_71 : decode cX11_init 71 = .ok (.putfield 32, 3) := by decide +kernel
theorem dX11_init_74 : decode cX11_init 74 = .ok (.aload_n 0, 1) := by decide +kernel
theorem dX11_init_75 : decode cX11_init 75 = .ok (.bipush 24, 2) := by decide +kernel
theorem dX11_init_77 : decode cX11_init 77 = .ok (.newarray .int, 2) := by decide +kernel
theorem dX11_init_79 : decode cX11_init 79 = .ok (.putfield 35, 3) := by decide +kernel
theorem dX11_init_82 : decode cX11_init 82 = .ok (.aload_n 0, 1) := by decide +kernel
theorem dX11_init_83 : decode cX11_init 83 = .ok (.bipush 24, 2) := by decide +kernel
theorem dX11_init_85 : decode cX11_init 85 = .ok (.newarray .int, 2) := by decide +kernel
theorem dX11_init_87 : decode cX11_init 87 = .ok (.putfield 38, 3) := by decide +kernel
theorem dX11_init_90 : decode cX11_init 90 = .ok (.aload_n 0, 1) := by decide +kernel
theorem dX11_init_91 : decode cX11_init 91 = .ok (.bipush 7, 2) := by decide +kernel
theorem dX11_init_93 : decode cX11_init 93 = .ok (.newarray .int, 2) := by decide +kernel
theorem dX11_init_95 : decode cX11_init 95 = .ok (.putfield 41, 3) := by decide +kernel
theorem dX11_init_98 : decode cX11_init 98 = .ok (.aload_n 0, 1) := by decide +kernel
theorem dX11_init_99 : decode cX11_init 99 = .ok (.sipush 140, 3) := by decide +kernel
theorem dX11_init_102 : decode cX11_init 102 = .ok (.newarray .int, 2) := by decide +kernel
theorem dX11_init_104 : decode cX11_init 104 = .ok (.putfield 44, 3) := by decide +kernel
theorem dX11_init_107 : decode cX11_init 107 = .ok (.aload_n 0, 1) := by decide +kernel
theorem dX11_init_108 : decode cX11_init 108 = .ok (.sipush 140, 3) := by decide +kernel
theorem dX11_init_111 : decode cX11_init 111 = .ok (.newarray .int, 2) := by decide +kernel
theorem dX11_init_113 : decode cX11_init 113 = .ok (.putfield 47, 3) := by decide +kernel
theorem dX11_init_116 : decode cX11_init 116 = .ok (.aload_n 0, 1) := by decide +kernel
theorem dX11_init_117 : decode cX11_init 117 = .ok (.sipush 140, 3) := by decide +kernel
theorem dX11_init_120 : decode cX11_init 120 = .ok (.newarray .int, 2) := by decide +kernel
theorem dX11_init_122 : decode cX11_init 122 = .ok (.putfield 50, 3) := by decide +kernel
theorem dX11_init_125 : decode cX11_init 125 = .ok (.aload_n 0, 1) := by decide +kernel
theorem dX11_init_126 : decode cX11_init 126 = .ok (.sipush 140, 3) := by decide +kernel
theorem dX11_init_129 : decode cX11_init 129 = .ok (.newarray .int, 2) := by decide +kernel
theorem dX11_init_131 : decode cX11_init 131 = .ok (.putfield 53, 3) := by decide +kernel
theorem dX11_init_134 : decode cX11_init 134 = .ok (.aload_n 0, 1) := by decide +kernel
theorem dX11_init_135 : decode cX11_init 135 = .ok (.sipush 140, 3) := by decide +kernel
theorem dX11_init_138 : decode cX11_init 138 = .ok (.newarray .int, 2) := by decide +kernel
theorem dX11_init_140 : decode cX11_init 140 = .ok (.putfield 56, 3) := by decide +kernel
theorem dX11_init_143 : decode cX11_init 143 = .ok (.aload_n 0, 1) := by decide +kernel
theorem dX11_init_144 : decode cX11_init 144 = .ok (.sipush 8540, 3) := by decide +kernel
theorem dX11_init_147 : decode cX11_init 147 = .ok (.newarray .int, 2) := by decide +kernel
theorem dX11_init_149 : decode cX11_init 149 = .ok (.putfield 59, 3) := by decide +kernel
theorem dX11_init_152 : decode cX11_init 152 = .ok (.aload_n 0, 1) := by decide +kernel
theorem dX11_init_153 : decode cX11_init 153 = .ok (.bipush 7, 2) := by decide +kernel
theorem dX11_init_155 : decode cX11_init 155 = .ok (.newarray .int, 2) := by decide +kernel
theorem dX11_init_157 : decode cX11_init 157 = .ok (.putfield 62, 3) := by decide +kernel
theorem dX11_init_160 : decode cX11_init 160 = .ok (.aload_n 0, 1) := by decide +kernel
theorem dX11_init_161 : decode cX11_init 161 = .ok (.bipush 7, 2) := by decide +kernel
theorem dX11_init_163 : decode cX11_init 163 = .ok (.newarray .int, 2) := by decide +kernel
theorem dX11_init_165 : decode cX11_init 165 = .ok (.putfield 65, 3) := by decide +kernel
theorem dX11_init_168 : decode cX11_init 168 = .ok (.aload_n 0, 1) := by decide +kernel
theorem dX11_init_169 : decode cX11_init 169 = .ok (.sipush 140, 3) := by decide +kernel
theorem dX11_init_172 : decode cX11_init 172 = .ok (.newarray .int, 2) := by decide +kernel
theorem dX11_init_174 : decode cX11_init 174 = .ok (.putfield 68, 3) := by decide +kernel
theorem dX11_init_177 : decode cX11_init 177 = .ok (.aload_n 0, 1) := by decide +kernel
theorem dX11_init_178 : decode cX11_init 178 = .ok (.sipush 140, 3) := by decide +kernel
theorem dX11_init_181 : decode cX11_init 181 = .ok (.newarray .int, 2) := by decide +kernel
theorem dX11_init_183 : decode cX11_init 183 = .ok (.putfield 71, 3) := by decide +kernel
theorem dX11_init_186 : decode cX11_init 186 = .ok (.aload_n 0, 1) := by decide +kernel
theorem dX11_init_187 : decode cX11_init 187 = .ok (.bipush 7, 2) := by decide +kernel
theorem dX11_init_189 : decode cX11_init 189 = .ok (.newarray .int, 2) := by decide +kernel
theorem dX11_init_191 : decode cX11_init 191 = .ok (.putfield 74, 3) := by decide +kernel
theorem dX11_init_194 : decode cX11_init 194 = .ok (.aload_n 0, 1) := by decide +kernel
theorem dX11_init_195 : decode cX11_init 195 = .ok (.bipush 7, 2) := by decide +kernel
theorem dX11_init_197 : decode cX11_init 197 = .ok (.newarray .boolean, 2) := by decide +kernel
theorem dX11_init_199 : decode cX11_init 199 = .ok (.putfield 77, 3) := by decide +kernel
theorem dX11_init_202 : decode cX11_init 202 = .ok (.aload_n 0, 1) := by decide +kernel
theorem dX11_init_203 : decode cX11_init 203 = .ok (.bipush 7, 2) := by decide +kernel
theorem dX11_init_205 : decode cX11_init 205 = .ok (.newarray .boolean, 2) := by decide +kernel
theorem dX11_init_207 : decode cX11_init 207 = .ok (.putfield 81, 3) := by decide +kernel
theorem dX11_init_210 : decode cX11_init 210 = .ok (.aload_n 0, 1) := by decide +kernel
theorem dX11_init_211 : decode cX11_init 211 = .ok (.bipush 37, 2) := by decide +kernel
theorem dX11_init_213 : decode cX11_init 213 = .ok (.newarray .int, 2) := by decide +kernel
theorem dX11_init_215 : decode cX11_init 215 = .ok (.putfield 84, 3) := by decide +kernel
theorem dX11_init_218 : decode cX11_init 218 = .ok (.aload_n 0, 1) := by decide +kernel
theorem dX11_init_219 : decode cX11_init 219 = .ok (.bipush 37, 2) := by decide +kernel
theorem dX11_init_221 : decode cX11_init 221 = .ok (.newarray .int, 2) := by decide +kernel
theorem dX11_init_223 : decode cX11_init 223 = .ok (.putfield 87, 3) := by decide +kernel
theorem dX11_init_226 : decode cX11_init 226 = .ok (.aload_n 0, 1) := by decide +kernel
theorem dX11_init_227 : decode cX11_init 227 = .ok (.sipush 740, 3) := by decide +kernel
theorem dX11_init_230 : decode cX11_init 230 = .ok (.newarray .int, 2) := by decide +kernel
theorem dX11_init_232 : decode cX11_init 232 = .ok (.putfield 90, 3) := by decide +kernel
theorem dX11_init_235 : decode cX11_init 235 = .ok (.aload_n 0, 1) := by decide +kernel
theorem dX11_init_236 : decode cX11_init 236 = .ok (.bipush 37, 2) := by decide +kernel
theorem dX11_init_238 : decode cX11_init 238 = .ok (.newarray .int, 2) := by decide +kernel
theorem dX11_init_240 : decode cX11_init 240 = .ok (.putfield 93, 3) := by decide +kernel
theorem dX11_init_243 : decode cX11_init 243 = .ok (.aload_n 0, 1) := by decide +kernel
theorem dX11_init_244 : decode cX11_init 244 = .ok (.sipush 222, 3) := by decide +kernel
theorem dX11_init_247 : decode cX11_init 247 = .ok (.newarray .int, 2) := by decide +kernel
theorem dX11_init_249 : decode cX11_init 249 = .ok (.putfield 96, 3) := by decide +kernel
theorem dX11_init_252 : decode cX11_init 252 = .ok (.aload_n 0, 1) := by decide +kernel
theorem dX11_init_253 : decode cX11_init 253 = .ok (.bipush 37, 2) := by decide +kernel
theorem dX11_init_255 : decode cX11_init 255 = .ok (.newarray .int, 2) := by decide +kernel
theorem dX11_init_257 : decode cX11_init 257 = .ok (.putfield 99, 3) := by decide +kernel
theorem dX11_init_260 : decode cX11_init 260 = .ok (.aload_n 0, 1) := by decide +kernel
theorem dX11_init_261 : decode cX11_init 261 = .ok (.bipush 37, 2) := by decide +kernel
theorem dX11_init_263 : decode cX11_init 263 = .ok (.newarray .boolean, 2) := by decide +kernel
theorem dX11_init_265 : decode cX11_init 265 = .ok (.putfield 102, 3) := by decide +kernel
theorem dX11_init_268 : decode cX11_init 268 = .ok (.aload_n 0, 1) := by decide +kernel
theorem dX11_init_269 : decode cX11_init 269 = .ok (.sipush 600, 3) := by decide +kernel
theorem dX11_init_272 : decode cX11_init 272 = .ok (.newarray .int, 2) := by decide +kernel
theorem dX11_init_274 : decode cX11_init 274 = .ok (.putfield 105, 3) := by decide +kernel
theorem dX11_init_277 : decode cX11_init 277 = .ok (.aload_n 0, 1) := by decide +kernel
theorem dX11_init_278 : decode cX11_init 278 = .ok (.sipush 620, 3) := by decide +kernel
theorem dX11_init_281 : decode cX11_init 281 = .ok (.newarray .int, 2) := by decide +kernel
theorem dX11_init_283 : decode cX11_init 283 = .ok (.putfield 108, 3) := by decide +kernel
theorem dX11_init_286 : decode cX11_init 286 = .ok (.aload_n 0, 1) := by decide +kernel
theorem dX11_init_287 : decode cX11_init 287 = .ok (.bipush 9, 2) := by decide +kernel
theorem dX11_init_289 : decode cX11_init 289 = .ok (.newarray .int, 2) := by decide +kernel
theorem dX11_init_291 : decode cX11_init 291 = .ok (.putfield 111, 3) := by decide +kernel
theorem dX11_init_294 : decode cX11_init 294 = .ok (.aload_n 0, 1) := by decide +kernel
theorem dX11_init_295 : decode cX11_init 295 = .ok (.iconst (-1), 1) := by decide +kernel
theorem dX11_init_296 : decode cX11_init 296 = .ok (.putfield 114, 3) := by decide +kernel
theorem dX11_init_299 : decode cX11_init 299 = .ok (.iconst 0, 1) := by decide +kernel
theorem dX11_init_300 : decode cX11_init 300 = .ok (.istore_n 1, 1) := by decide +kernel
theorem dX11_init_301 : decode cX11_init 301 = .ok (.iload_n 1, 1) := by decide +kernel
theorem dX11_init_302 : decode cX11_init 302 = .ok (.bipush 37, 2) := by decide +kernel
theorem dX11_init_304 : decode cX11_init 304 = .ok (.if_icmp .ge 14, 3) := by decide +kernel
theorem dX11_init_307 : decode cX11_init 307 = .ok (.aload_n 0, 1) := by decide +kernel
theorem dX11_init_308 : decode cX11_init 308 = .ok (.iload_n 1, 1) := by decide +kernel
theorem dX11_init_309 : decode cX11_init 309 = .ok (.invokevirtual 118, 3) := by decide +kernel
theorem dX11_init_312 : decode cX11_init 312 = .ok (.iinc 1 1, 3) := by decide +kernel
theorem dX11_init_315 : decode cX11_init 315 = .ok (.goto (-14), 3) := by decide +kernel
theorem dX11_init_318 : decode cX11_init 318 = .ok (.aload_n 0, 1) := by decide +kernel
theorem dX11_init_319 : decode cX11_init 319 = .ok (.bipush 6, 2) := by decide +kernel
theorem dX11_init_321 : decode cX11_init 321 = .ok (.newarray .int, 2) := by decide +kernel
theorem dX11_init_323 : decode cX11_init 323 = .ok (.putfield 122, 3) := by decide +kernel
theorem dX11_init_326 : decode cX11_init 326 = .ok (.aload_n 0, 1) := by decide +kernel
theorem dX11_init_327 : decode cX11_init 327 = .ok (.bipush 12, 2) := by decide +kernel
theorem dX11_init_329 : decode cX11_init 329 = .ok (.newarray .int, 2) := by decide +kernel
theorem dX11_init_331 : decode cX11_init 331 = .ok (.putfield 125, 3) := by decide +kernel
theorem dX11_init_334 : decode cX11_init 334 = .ok (.aload_n 0, 1) := by decide +kernel
theorem dX11_init_335 : decode cX11_init 335 = .ok (.bipush 12, 2) := by decide +kernel
theorem dX11_init_337 : decode cX11_init 337 = .ok (.newarray .int, 2) := by decide +kernel
theorem dX11_init_339 : decode cX11_init 339 = .ok (.putfield 128, 3) := by decide +kernel
theorem dX11_init_342 : decode cX11_init 342 = .ok (.aload_n 0, 1) := by decide +kernel
theorem dX11_init_343 : decode cX11_init 343 = .ok (.bipush 12, 2) := by decide +kernel
theorem dX11_init_345 : decode cX11_init 345 = .ok (.newarray .int, 2) := by decide +kernel
theorem dX11_init_347 : decode cX11_init 347 = .ok (.putfield 131, 3) := by decide +kernel
theorem dX11_init_350 : decode cX11_init 350 = .ok (.aload_n 0, 1) := by decide +kernel
theorem dX11_init_351 : decode cX11_init 351 = .ok (.bipush 12, 2) := by decide +kernel
theorem dX11_init_353 : decode cX11_init 353 = .ok (.newarray .int, 2) := by decide +kernel
theorem dX11_init_355 : decode cX11_init 355 = .ok (.putfield 134, 3) := by decide +kernel
theorem dX11_init_358 : decode cX11_init 358 = .ok (.aload_n 0, 1) := by decide +kernel
theorem dX11_init_359 : decode cX11_init 359 = .ok (.bipush 12, 2) := by decide +kernel
theorem dX11_init_361 : decode cX11_init 361 = .ok (.newarray .int, 2) := by decide +kernel
theorem dX11_init_363 : decode cX11_init 363 = .ok (.putfield 137, 3) := by decide +kernel
theorem dX11_init_366 : decode cX11_init 366 = .ok (.aload_n 0, 1) := by decide +kernel
theorem dX11_init_367 : decode cX11_init 367 = .ok (.bipush 36, 2) := by decide +kernel
theorem dX11_init_369 : decode cX11_init 369 = .ok (.newarray .int, 2) := by decide +kernel
theorem dX11_init_371 : decode cX11_init 371 = .ok (.putfield 140, 3) := by decide +kernel
theorem dX11_init_374 : decode cX11_init 374 = .ok (.aload_n 0, 1) := by decide +kernel
theorem dX11_init_375 : decode cX11_init 375 = .ok (.sipush 216, 3) := by decide +kernel
theorem dX11_init_378 : decode cX11_init 378 = .ok (.newarray .int, 2) := by decide +kernel
theorem dX11_init_380 : decode cX11_init 380 = .ok (.putfield 143, 3) := by decide +kernel
theorem dX11_init_383 : decode cX11_init 383 = .ok (.aload_n 0, 1) := by decide +kernel
theorem dX11_init_384 : decode cX11_init 384 = .ok (.bipush 36, 2) := by decide +kernel
theorem dX11_init_386 : decode cX11_init 386 = .ok (.newarray .int, 2) := by decide +kernel
theorem dX11_init_388 : decode cX11_init 388 = .ok (.putfield 146, 3) := by decide +kernel
theorem dX11_init_391 : decode cX11_init 391 = .ok (.aload_n 0, 1) := by decide +kernel
theorem dX11_init_392 : decode cX11_init 392 = .ok (.bipush 36, 2) := by decide +kernel
theorem dX11_init_394 : decode cX11_init 394 = .ok (.newarray .boolean, 2) := by decide +kernel
theorem dX11_init_396 : decode cX11_init 396 = .ok (.putfield 149, 3) := by decide +kernel
theorem dX11_init_399 : decode cX11_init 399 = .ok (.aload_n 0, 1) := by decide +kernel
theorem dX11_init_400 : decode cX11_init 400 = .ok (.bipush 6, 2) := by decide +kernel
theorem dX11_init_402 : decode cX11_init 402 = .ok (.newarray .long, 2) := by decide +kernel
theorem dX11_init_404 : decode cX11_init 404 = .ok (.putfield 152, 3) := by decide +kernel
theorem dX11_init_407 : decode cX11_init 407 = .ok (.aload_n 0, 1) := by decide +kernel
theorem dX11_init_408 : decode cX11_init 408 = .ok (.bipush 6, 2) := by decide +kernel
theorem dX11_init_410 : decode cX11_init 410 = .ok (.newarray .long, 2) := by decide +kernel
theorem dX11_init_412 : decode cX11_init 412 = .ok (.putfield 156, 3) := by decide +kernel
theorem dX11_init_415 : decode cX11_init 415 = .ok (.aload_n 0, 1) := by decide +kernel
theorem dX11_init_416 : decode cX11_init 416 = .ok (.bipush 6, 2) := by decide +kernel
theorem dX11_init_418 : decode cX11_init 418 = .ok (.newarray .long, 2) := by decide +kernel
theorem dX11_init_420 : decode cX11_init 420 = .ok (.putfield 159, 3) := by decide +kernel
theorem dX11_init_423 : decode cX11_init 423 = .ok (.aload_n 0, 1) := by decide +kernel
theorem dX11_init_424 : decode cX11_init 424 = .ok (.bipush 6, 2) := by decide +kernel
theorem dX11_init_426 : decode cX11_init 426 = .ok (.newarray .long, 2) := by decide +kernel
theorem dX11_init_428 : decode cX11_init 428 = .ok (.putfield 162, 3) := by decide +kernel
theorem dX11_init_431 : decode cX11_init 431 = .ok (.aload_n 0, 1) := by decide +kernel
theorem dX11_init_432 : decode cX11_init 432 = .ok (.bipush 42, 2) := by decide +kernel
theorem dX11_init_434 : decode cX11_init 434 = .ok (.newarray .long, 2) := by decide +kernel
theorem dX11_init_436 : decode cX11_init 436 = .ok (.putfield 165, 3) := by decide +kernel
theorem dX11_init_439 : decode cX11_init 439 = .ok (.aload_n 0, 1) := by decide +kernel
theorem dX11_init_440 : decode cX11_init 440 = .ok (.bipush 6, 2) := by decide +kernel
theorem dX11_init_442 : decode cX11_init 442 = .ok (.newarray .int, 2) := by decide +kernel
theorem dX11_init_444 : decode cX11_init 444 = .ok (.putfield 168, 3) := by decide +kernel
theorem dX11_init_447 : decode cX11_init 447 = .ok (.aload_n 0, 1) := by decide +kernel
theorem dX11_init_448 : decode cX11_init 448 = .ok (.bipush 20, 2) := by decide +kernel
theorem dX11_init_450 : decode cX11_init 450 = .ok (.newarray .int, 2) := by decide +kernel
theorem dX11_init_452 : decode cX11_init 452 = .ok (.putfield 171, 3) := by decide +kernel
theorem dX11_init_455 : decode cX11_init 455 = .ok (.aload_n 0, 1) := by decide +kernel
theorem dX11_init_456 : decode cX11_init 456 = .ok (.bipush 20, 2) := by decide +kernel
theorem dX11_init_458 : decode cX11_init 458 = .ok (.newarray .int, 2) := by decide +kernel
theorem dX11_init_460 : decode cX11_init 460 = .ok (.putfield 174, 3) := by decide +kernel
theorem dX11_init_463 : decode cX11_init 463 = .ok (.aload_n 0, 1) := by decide +kernel
theorem dX11_init_464 : decode cX11_init 464 = .ok (.bipush 6, 2) := by decide +kernel
theorem dX11_init_466 : decode cX11_init 466 = .ok (.newarray .int, 2) := by decide +kernel
theorem dX11_init_468 : decode cX11_init 468 = .ok (.putfield 177, 3) := by decide +kernel
theorem dX11_init_471 : decode cX11_init 471 = .ok (.aload_n 0, 1) := by decide +kernel
theorem dX11_init_472 : decode cX11_init 472 = .ok (.bipush 6, 2) := by decide +kernel
theorem dX11_init_474 : decode cX11_init 474 = .ok (.newarray .int, 2) := by decide +kernel
theorem dX11_init_476 : decode cX11_init 476 = .ok (.putfield 180, 3) := by decide +kernel
theorem dX11_init_479 : decode cX11_init 479 = .ok (.aload_n 0, 1) := by decide +kernel
theorem dX11_init_480 : decode cX11_init 480 = .ok (.bipush 6, 2) := by decide +kernel
theorem dX11_init_482 : decode cX11_init 482 = .ok (.newarray .int, 2) := by decide +kernel
theorem dX11_init_484 : decode cX11_init 484 = .ok (.putfield 183, 3) := by decide +kernel
theorem dX11_init_487 : decode cX11_init 487 = .ok (.aload_n 0, 1) := by decide +kernel
theorem dX11_init_488 : decode cX11_init 488 = .ok (.bipush 6, 2) := by decide +kernel
theorem dX11_init_490 : decode cX11_init 490 = .ok (.newarray .int, 2) := by decide +kernel
theorem dX11_init_492 : decode cX11_init 492 = .ok (.putfield 186, 3) := by decide +kernel
theorem dX11_init_495 : decode cX11_init 495 = .ok (.aload_n 0, 1) := by decide +kernel
theorem dX11_init_496 : decode cX11_init 496 = .ok (.bipush 6, 2) := by decide +kernel
theorem dX11_init_498 : decode cX11_init 498 = .ok (.newarray .int, 2) := by decide +kernel
theorem dX11_init_500 : decode cX11_init 500 = .ok (.putfield 189, 3) := by decide +kernel
theorem dX11_init_503 : decode cX11_init 503 = .ok (.aload_n 0, 1) := by decide +kernel
theorem dX11_init_504 : decode cX11_init 504 = .ok (.bipush 6, 2) := by decide +kernel
theorem dX11_init_506 : decode cX11_init 506 = .ok (.newarray .int, 2) := by decide +kernel
theorem dX11_init_508 : decode cX11_init 508 = .ok (.putfield 192, 3) := by decide +kernel
theorem dX11_init_511 : decode cX11_init 511 = .ok (.aload_n 0, 1) := by decide +kernel
theorem dX11_init_512 : decode cX11_init 512 = .ok (.bipush 10, 2) := by decide +kernel
theorem dX11_init_514 : decode cX11_init 514 = .ok (.newarray .int, 2) := by decide +kernel
theorem dX11_init_516 : decode cX11_init 516 = .ok (.putfield 195, 3) := by decide +kernel
theorem dX11_init_519 : decode cX11_init 519 = .ok (.aload_n 0, 1) := by decide +kernel
theorem dX11_init_520 : decode cX11_init 520 = .ok (.bipush 10, 2) := by decide +kernel
theorem dX11_init_522 : decode cX11_init 522 = .ok (.newarray .int, 2) := by decide +kernel
theorem dX11_init_524 : decode cX11_init 524 = .ok (.putfield 198, 3) := by decide +kernel
theorem dX11_init_527 : decode cX11_init 527 = .ok (.aload_n 0, 1) := by decide +kernel
theorem dX11_init_528 : decode cX11_init 528 = .ok (.bipush 10, 2) := by decide +kernel
theorem dX11_init_530 : decode cX11_init 530 = .ok (.newarray .int, 2) := by decide +kernel
theorem dX11_init_532 : decode cX11_init 532 = .ok (.putfield 201, 3) := by decide +kernel
theorem dX11_init_535 : decode cX11_init 535 = .ok (.aload_n 0, 1) := by decide +kernel
theorem dX11_init_536 : decode cX11_init 536 = .ok (.bipush 10, 2) := by decide +kernel
theorem dX11_init_538 : decode cX11_init 538 = .ok (.newarray .long, 2) := by decide +kernel
theorem dX11_init_540 : decode cX11_init 540 = .ok (.putfield 204, 3) := by decide +kernel
theorem dX11_init_543 : decode cX11_init 543 = .ok (.iconst 0, 1) := by decide +kernel
theorem dX11_init_544 : decode cX11_init 544 = .ok (.istore_n 1, 1) := by decide +kernel
theorem dX11_init_545 : decode cX11_init 545 = .ok (.iload_n 1, 1) := by decide +kernel
theorem dX11_init_546 : decode cX11_init 546 = .ok (.sipush 720, 3) := by decide +kernel
theorem dX11_init_549 : decode cX11_init 549 = .ok (.if_icmp .ge 16, 3) := by decide +kernel
theorem dX11_init_552 : decode cX11_init 552 = .ok (.aload_n 0, 1) := by decide +kernel
theorem dX11_init_553 : decode cX11_init 553 = .ok (.getfield 13, 3) := by decide +kernel
theorem dX11_init_556 : decode cX11_init 556 = .ok (.iload_n 1, 1) := by decide +kernel
theorem dX11_init_557 : decode cX11_init 557 = .ok (.iconst (-1), 1) := by decide +kernel
theorem dX11_init_558 : decode cX11_init 558 = .ok (.iastore, 1) := by decide +kernel
theorem dX11_init_559 : decode cX11_init 559 = .ok (.iinc 1 1, 3) := by decide +kernel
theorem dX11_init_562 : decode cX11_init 562 = .ok (.goto (-17), 3) := by decide +kernel
theorem dX11_init_565 : decode cX11_init 565 = .ok (.return_, 1) := by decide +kernel
theorem dX11_night_0 : decode cX11_night 0 = .ok (.iload_n 1, 1) := by decide +kernel
theorem dX11_night_1 : decode cX11_night 1 = .ok (.invokestatic 207, 3) := by decide +kernel
theorem dX11_night_4 : decode cX11_night 4 = .ok (.ifCond .eq 39, 3) := by decide +kernel
theorem dX11_night_7 : decode cX11_night 7 = .ok (.iload_n 2, 1) := by decide +kernel
theorem dX11_night_8 : decode cX11_night 8 = .ok (.iconst 0, 1) := by decide +kernel
theorem dX11_night_9 : decode cX11_night 9 = .ok (.sipush 359, 3) := by decide +kernel
theorem dX11_night_12 : decode cX11_night 12 = .ok (.invokestatic 1, 3) := by decide +kernel
theorem dX11_night_15 : decode cX11_night 15 = .ok (.ifCond .eq 28, 3) := by decide +kernel
theorem dX11_night_18 : decode cX11_night 18 = .ok (.iload_n 3, 1) := by decide +kernel
theorem dX11_night_19 : decode cX11_night 19 = .ok (.iload_n 2, 1) := by decide +kernel
theorem dX11_night_20 : decode cX11_night 20 = .ok (.sipush 359, 3) := by decide +kernel
theorem dX11_night_23 : decode cX11_night 23 = .ok (.invokestatic 1, 3) := by decide +kernel
theorem dX11_night_26 : decode cX11_night 26 = .ok (.ifCond .eq 17, 3) := by decide +kernel
theorem dX11_night_29 : decode cX11_night 29 = .ok (.iload 4, 2) := by decide +kernel
theorem dX11_night_31 : decode cX11_night 31 = .ok (.iconst (-1), 1) := by decide +kernel
theorem dX11_night_32 : decode cX11_night 32 = .ok (.if_icmp .eq 13, 3) := by decide +kernel
theorem dX11_night_35 : decode cX11_night 35 = .ok (.iload 4, 2) := by decide +kernel
theorem dX11_night_37 : decode cX11_night 37 = .ok (.invokestatic 211, 3) := by decide +kernel
theorem dX11_night_40 : decode cX11_night 40 = .ok (.ifCond .ne 5, 3) := by decide +kernel
theorem dX11_night_43 : decode cX11_night 43 = .ok (.iconst 0, 1) := by decide +kernel
theorem dX11_night_44 : decode cX11_night 44 = .ok (.ireturn, 1) := by decide +kernel
theorem dX11_night_45 : decode cX11_night 45 = .ok (.iload_n 2, 1) := by decide +kernel
theorem dX11_night_46 : decode cX11_night 46 = .ok (.istore 5, 2) := by decide +kernel
theorem dX11_night_48 : decode cX11_night 48 = .ok (.iload 5, 2) := by decide +kernel
theorem dX11_night_50 : decode cX11_night 50 = .ok (.iload_n 3, 1) := by decide +kernel
theorem dX11_night_51 : decode cX11_night 51 = .ok (.if_icmp .gt 24, 3) := by decide +kernel
theorem dX11_night_54 : decode cX11_night 54 = .ok (.aload_n 0, 1) := by decide +kernel
theorem dX11_night_55 : decode cX11_night 55 = .ok (.getfield 13, 3) := by decide +kernel
theorem dX11_night_58 : decode cX11_night 58 = .ok (.sipush 360, 3) := by decide +kernel
theorem dX11_night_61 : decode cX11_night 61 = .ok (.iload_n 1, 1) := by decide +kernel
theorem dX11_night_62 : decode cX11_night 62 = .ok (.imul, 1) := by decide +kernel
theorem dX11_night_63 : decode cX11_night 63 = .ok (.iload 5, 2) := by decide +kernel
theorem dX11_night_65 : decode cX11_night 65 = .ok (.iadd, 1) := by decide +kernel
theorem dX11_night_66 : decode cX11_night 66 = .ok (.iload 4, 2) := by decide +kernel
theorem dX11_night_68 : decode cX11_night 68 = .ok (.iastore, 1) := by decide +kernel
theorem dX11_night_69 : decode cX11_night 69 = .ok (.iinc 5 1, 3) := by decide +kernel
theorem dX11_night_72 : decode cX11_night 72 = .ok (.goto (-24), 3) := by decide +kernel
theorem dX11_night_75 : decode cX11_night 75 = .ok (.iconst 1, 1) := by decide +kernel
theorem dX11_night_76 : decode cX11_night 76 = .ok (.ireturn, 1) := by decide +kernel
theorem dX11_home_0 : decode cX11_home 0 = .ok (.iload_n 1, 1) := by decide +kernel
theorem dX11_home_1 : decode cX11_home 1 = .ok (.invokestatic 207, 3) := by decide +kernel
theorem dX11_home_4 : decode cX11_home 4 = .ok (.ifCond .eq 10, 3) := by decide +kernel
theorem dX11_home_7 : decode cX11_home 7 = .ok (.iload_n 2, 1) := by decide +kernel
theorem dX11_home_8 : decode cX11_home 8 = .ok (.invokestatic 211, 3) := by decide +kernel
theorem dX11_home_11 : decode cX11_home 11 = .ok (.ifCond .ne 5, 3) := by decide +kernel
theorem dX11_home_14 : decode cX11_home 14 = .ok (.iconst 0, 1) := by decide +kernel
theorem dX11_home_15 : decode cX11_home 15 = .ok (.ireturn, 1) := by decide +kernel
theorem dX11_home_16 : decode cX11_home 16 = .ok (.aload_n 0, 1) := by decide +kernel
theorem dX11_home_17 : decode cX11_home 17 = .ok (.getfield 17, 3) := by decide +kernel
theorem dX11_home_20 : decode cX11_home 20 = .ok (.iload_n 1, 1) := by decide +kernel
theorem dX11_home_21 : decode cX11_home 21 = .ok (.iload_n 3, 1) := by decide +kernel
theorem dX11_home_22 : decode cX11_home 22 = .ok (.ifCond .eq 16, 3) := by decide +kernel
theorem dX11_home_25 : decode cX11_home 25 = .ok (.aload_n 0, 1) := by decide +kernel
theorem dX11_home_26 : decode cX11_home 26 = .ok (.getfield 17, 3) := by decide +kernel
theorem dX11_home_29 : decode cX11_home 29 = .ok (.iload_n 1, 1) := by decide +kernel
theorem dX11_home_30 : decode cX11_home 30 = .ok (.iaload, 1) := by decide +kernel
theorem dX11_home_31 : decode cX11_home 31 = .ok (.iconst 1, 1) := by decide +kernel
theorem dX11_home_32 : decode cX11_home 32 = .ok (.iload_n 2, 1) := by decide +kernel
theorem dX11_home_33 : decode cX11_home 33 = .ok (.ishl, 1) := by decide +kernel
theorem dX11_home_34 : decode cX11_home 34 = .ok (.ior, 1) := by decide +kernel
theorem dX11_home_35 : decode cX11_home 35 = .ok (.goto 15, 3) := by decide +kernel
theorem dX11_home_38 : decode cX11_home 38 = .ok (.aload_n 0, 1) := by decide +kernel
theorem dX11_home_39 : decode cX11_home 39 = .ok (.getfield 17, 3) := by decide +kernel
theorem dX11_home_42 : decode cX11_home 42 = .ok (.iload_n 1, 1) := by decide +kernel
theorem dX11_home_43 : decode cX11_home 43 = .ok (.iaload, 1) := by decide +kernel
theorem dX11_home_44 : decode cX11_home 44 = .ok (.iconst 1, 1) := by decide +kernel
theorem dX11_home_45 : decode cX11_home 45 = .ok (.iload_n 2, 1) := by decide +kernel
theorem dX11_home_46 : decode cX11_home 46 = .ok (.ishl, 1) := by decide +kernel
theorem dX11_home_47 : decode cX11_home 47 = .ok (.iconst (-1), 1) := by decide +kernel
theorem dX11_home_48 : decode cX11_home 48 = .ok (.ixor, 1) := by decide +kernel
theorem dX11_home_49 : decode cX11_home 49 = .ok (.iand, 1) := by decide +kernel
theorem dX11_home_50 : decode cX11_home 50 = .ok (.iastore, 1) := by decide +kernel
theorem dX11_home_51 : decode cX11_home 51 = .ok (.iconst 1, 1) := by decide +kernel
theorem dX11_home_52 : decode cX11_home 52 = .ok (.ireturn, 1) := by decide +kernel
theorem dX11_tie_0 : decode cX11_tie 0 = .ok (.iload_n 1, 1) := by decide +kernel
theorem dX11_tie_1 : decode cX11_tie 1 = .ok (.invokestatic 207, 3) := by decide +kernel
theorem dX11_tie_4 : decode cX11_tie 4 = .ok (.ifCond .eq 24, 3) := by decide +kernel
theorem dX11_tie_7 : decode cX11_tie 7 = .ok (.iload_n 2, 1) := by decide +kernel
theorem dX11_tie_8 : decode cX11_tie 8 = .ok (.iconst 0, 1) := by decide +kernel
theorem dX11_tie_9 : decode cX11_tie 9 = .ok (.iconst 1, 1) := by decide +kernel
theorem dX11_tie_10 : decode cX11_tie 10 = .ok (.invokestatic 1, 3) := by decide +kernel
theorem dX11_tie_13 : decode cX11_tie 13 = .ok (.ifCond .eq 15, 3) := by decide +kernel
theorem dX11_tie_16 : decode cX11_tie 16 = .ok (.iload_n 3, 1) := by decide +kernel
theorem dX11_tie_17 : decode cX11_tie 17 = .ok (.iconst (-1), 1) := by decide +kernel
theorem dX11_tie_18 : decode cX11_tie 18 = .ok (.if_icmp .eq 12, 3) := by decide +kernel
theorem dX11_tie_21 : decode cX11_tie 21 = .ok (.iload_n 3, 1) := by decide +kernel
theorem dX11_tie_22 : decode cX11_tie 22 = .ok (.invokestatic 211, 3) := by decide +kernel
theorem dX11_tie_25 : decode cX11_tie 25 = .ok (.ifCond .ne 5, 3) := by decide +kernel
theorem dX11_tie_28 : decode cX11_tie 28 = .ok (.iconst 0, 1) := by decide +kernel
theorem dX11_tie_29 : decode cX11_tie 29 = .ok (.ireturn, 1) := by decide +kernel
theorem dX11_tie_30 : decode cX11_tie 30 = .ok (.aload_n 0, 1) := by decide +kernel
theorem dX11_tie_31 : decode cX11_tie 31 = .ok (.getfield 20, 3) := by decide +kernel
theorem dX11_tie_34 : decode cX11_tie 34 = .ok (.iconst 2, 1) := by decide +kernel
theorem dX11_tie_35 : decode cX11_tie 35 = .ok (.iload_n 1, 1) := by decide +kernel
theorem dX11_tie_36 : decode cX11_tie 36 = .ok (.imul, 1) := by decide +kernel
theorem dX11_tie_37 : decode cX11_tie 37 = .ok (.iload_n 2, 1) := by decide +kernel
theorem dX11_tie_38 : decode cX11_tie 38 = .ok (.iadd, 1) := by decide +kernel
theorem dX11_tie_39 : decode cX11_tie 39 = .ok (.iload_n 3, 1) := by decide +kernel
theorem dX11_tie_40 : decode cX11_tie 40 = .ok (.iastore, 1) := by decide +kernel
theorem dX11_tie_41 : decode cX11_tie 41 = .ok (.iconst 1, 1) := by decide +kernel
theorem dX11_tie_42 : decode cX11_tie 42 = .ok (.ireturn, 1) := by decide +kernel
theorem dX11_sum_0 : decode cX11_sum 0 = .ok (.iload_n 1, 1) := by decide +kernel
theorem dX11_sum_1 : decode cX11_sum 1 = .ok (.invokestatic 207, 3) := by decide +kernel
theorem dX11_sum_4 : decode cX11_sum 4 = .ok (.ifCond .eq 64, 3) := by decide +kernel
theorem dX11_sum_7 : decode cX11_sum 7 = .ok (.iload_n 2, 1) := by decide +kernel
theorem dX11_sum_8 : decode cX11_sum 8 = .ok (.iconst 0, 1) := by decide +kernel
theorem dX11_sum_9 : decode cX11_sum 9 = .ok (.iconst 5, 1) := by decide +kernel
theorem dX11_sum_10 : decode cX11_sum 10 = .ok (.invokestatic 1, 3) := by decide +kernel
theorem dX11_sum_13 : decode cX11_sum 13 = .ok (.ifCond .eq 55, 3) := by decide +kernel
theorem dX11_sum_16 : decode cX11_sum 16 = .ok (.iload_n 2, 1) := by decide +kernel
theorem dX11_sum_17 : decode cX11_sum 17 = .ok (.iconst 5, 1) := by decide +kernel
theorem dX11_sum_18 : decode cX11_sum 18 = .ok (.if_icmp .ne 12, 3) := by decide +kernel
theorem dX11_sum_21 : decode cX11_sum 21 = .ok (.iload_n 3, 1) := by decide +kernel
theorem dX11_sum_22 : decode cX11_sum 22 = .ok (.iconst 0, 1) := by decide +kernel
theorem dX11_sum_23 : decode cX11_sum 23 = .ok (.iconst 4, 1) := by decide +kernel
theorem dX11_sum_24 : decode cX11_sum 24 = .ok (.invokestatic 1, 3) := by decide +kernel
theorem dX11_sum_27 : decode cX11_sum 27 = .ok (.ifCond .eq 41, 3) := by decide +kernel
theorem dX11_sum_30 : decode cX11_sum 30 = .ok (.iload 4, 2) := by decide +kernel
theorem dX11_sum_32 : decode cX11_sum 32 = .ok (.iconst 1, 1) := by decide +kernel
theorem dX11_sum_33 : decode cX11_sum 33 = .ok (.ldc 214, 2) := by decide +kernel
theorem dX11_sum_35 : decode cX11_sum 35 = .ok (.invokestatic 1, 3) := by decide +kernel
theorem dX11_sum_38 : decode cX11_sum 38 = .ok (.ifCond .eq 30, 3) := by decide +kernel
theorem dX11_sum_41 : decode cX11_sum 41 = .ok (.iload 5, 2) := by decide +kernel
theorem dX11_sum_43 : decode cX11_sum 43 = .ok (.invokestatic 211, 3) := by decide +kernel
theorem dX11_sum_46 : decode cX11_sum 46 = .ok (.ifCond .eq 22, 3) := by decide +kernel
theorem dX11_sum_49 : decode cX11_sum 49 = .ok (.iload 6, 2) := by decide +kernel
theorem dX11_sum_51 : decode cX11_sum 51 = .ok (.invokestatic 211, 3) := by decide +kernel
theorem dX11_sum_54 : decode cX11_sum 54 = .ok (.ifCond .eq 14, 3) := by decide +kernel
theorem dX11_sum_57 : decode cX11_sum 57 = .ok (.aload_n 0, 1) := by decide +kernel
theorem dX11_sum_58 : decode cX11_sum 58 = .ok (.getfield 23, 3) := by decide +kernel
theorem dX11_sum_61 : decode cX11_sum 61 = .ok (.iload_n 1, 1) := by decide +kernel
theorem dX11_sum_62 : decode cX11_sum 62 = .ok (.iaload, 1) := by decide +kernel
theorem dX11_sum_63 : decode cX11_sum 63 = .ok (.bipush 12, 2) := by decide +kernel
theorem dX11_sum_65 : decode cX11_sum 65 = .ok (.if_icmp .ne 5, 3) := by decide +kernel
theorem dX11_sum_68 : decode cX11_sum 68 = .ok (.iconst (-1), 1) := by decide +kernel
theorem dX11_sum_69 : decode cX11_sum 69 = .ok (.ireturn, 1) := by decide +kernel
theorem dX11_sum_70 : decode cX11_sum 70 = .ok (.bipush 12, 2) := by decide +kernel
theorem dX11_sum_72 : decode cX11_sum 72 = .ok (.iload_n 1, 1) := by decide +kernel
theorem dX11_sum_73 : decode cX11_sum 73 = .ok (.imul, 1) := by decide +kernel
theorem dX11_sum_74 : decode cX11_sum 74 = .ok (.aload_n 0, 1) := by decide +kernel
theorem dX11_sum_75 : decode cX11_sum 75 = .ok (.getfield 23, 3) := by decide +kernel
theorem dX11_sum_78 : decode cX11_sum 78 = .ok (.iload_n 1, 1) := by decide +kernel
theorem dX11_sum_79 : decode cX11_sum 79 = .ok (.iaload, 1) := by decide +kernel
theorem dX11_sum_80 : decode cX11_sum 80 = .ok (.iadd, 1) := by decide +kernel
theorem dX11_sum_81 : decode cX11_sum 81 = .ok (.istore 7, 2) := by decide +kernel
theorem dX11_sum_83 : decode cX11_sum 83 = .ok (.aload_n 0, 1) := by decide +kernel
theorem dX11_sum_84 : decode cX11_sum 84 = .ok (.getfield 26, 3) := by decide +kernel
theorem dX11_sum_87 : decode cX11_sum 87 = .ok (.iload 7, 2) := by decide +kernel
theorem dX11_sum_89 : decode cX11_sum 89 = .ok (.iload_n 2, 1) := by decide +kernel
theorem dX11_sum_90 : decode cX11_sum 90 = .ok (.iastore, 1) := by decide +kernel
theorem dX11_sum_91 : decode cX11_sum 91 = .ok (.aload_n 0, 1) := by decide +kernel
theorem dX11_sum_92 : decode cX11_sum 92 = .ok (.getfield 29, 3) := by decide +kernel
theorem dX11_sum_95 : decode cX11_sum 95 = .ok (.iload 7, 2) := by decide +kernel
theorem dX11_sum_97 : decode cX11_sum 97 = .ok (.iload_n 2, 1) := by decide +kernel
theorem dX11_sum_98 : decode cX11_sum 98 = .ok (.iconst 5, 1) := by decide +kernel
theorem dX11_sum_99 : decode cX11_sum 99 = .ok (.if_icmp .ne 7, 3) := by decide +kernel
theorem dX11_sum_102 : decode cX11_sum 102 = .ok (.iload_n 3, 1) := by decide +kernel
theorem dX11_sum_103 : decode cX11_sum 103 = .ok (.goto 4, 3) := by decide +kernel
theorem dX11_sum_106 : decode cX11_sum 106 = .ok (.iload_n 2, 1) := by decide +kernel
theorem dX11_sum_107 : decode cX11_sum 107 = .ok (.iastore, 1) := by decide +kernel
theorem dX11_sum_108 : decode cX11_sum 108 = .ok (.aload_n 0, 1) := by decide +kernel
theorem dX11_sum_109 : decode cX11_sum 109 = .ok (.getfield 32, 3) := by decide +kernel
theorem dX11_sum_112 : decode cX11_sum 112 = .ok (.iload 7, 2) := by decide +kernel
theorem dX11_sum_114 : decode cX11_sum 114 = .ok (.iload 4, 2) := by decide +kernel
theorem dX11_sum_116 : decode cX11_sum 116 = .ok (.iastore, 1) := by decide +kernel
theorem dX11_sum_117 : decode cX11_sum 117 = .ok (.aload_n 0, 1) := by decide +kernel
theorem dX11_sum_118 : decode cX11_sum 118 = .ok (.getfield 35, 3) := by decide +kernel
theorem dX11_sum_121 : decode cX11_sum 121 = .ok (.iload 7, 2) := by decide +kernel
theorem dX11_sum_123 : decode cX11_sum 123 = .ok (.iload 5, 2) := by decide +kernel
theorem dX11_sum_125 : decode cX11_sum 125 = .ok (.iastore, 1) := by decide +kernel
theorem dX11_sum_126 : decode cX11_sum 126 = .ok (.aload_n 0, 1) := by decide +kernel
theorem dX11_sum_127 : decode cX11_sum 127 = .ok (.getfield 38, 3) := by decide +kernel
theorem dX11_sum_130 : decode cX11_sum 130 = .ok (.iload 7, 2) := by decide +kernel
theorem dX11_sum_132 : decode cX11_sum 132 = .ok (.iload 6, 2) := by decide +kernel
theorem dX11_sum_134 : decode cX11_sum 134 = .ok (.iastore, 1) := by decide +kernel
theorem dX11_sum_135 : decode cX11_sum 135 = .ok (.aload_n 0, 1) := by decide +kernel
theorem dX11_sum_136 : decode cX11_sum 136 = .ok (.getfield 23, 3) := by decide +kernel
theorem dX11_sum_139 : decode cX11_sum 139 = .ok (.iload_n 1, 1) := by decide +kernel
theorem dX11_sum_140 : decode cX11_sum 140 = .ok (.dup2, 1) := by decide +kernel
theorem dX11_sum_141 : decode cX11_sum 141 = .ok (.iaload, 1) := by decide +kernel
theorem dX11_sum_142 : decode cX11_sum 142 = .ok (.iconst 1, 1) := by decide +kernel
theorem dX11_sum_143 : decode cX11_sum 143 = .ok (.iadd, 1) := by decide +kernel
theorem dX11_sum_144 : decode cX11_sum 144 = .ok (.iastore, 1) := by decide +kernel
theorem dX11_sum_145 : decode cX11_sum 145 = .ok (.aload_n 0, 1) := by decide +kernel
theorem dX11_sum_146 : decode cX11_sum 146 = .ok (.getfield 23, 3) := by decide +kernel
theorem dX11_sum_149 : decode cX11_sum 149 = .ok (.iload_n 1, 1) := by decide +kernel
theorem dX11_sum_150 : decode cX11_sum 150 = .ok (.iaload, 1) := by decide +kernel
theorem dX11_sum_151 : decode cX11_sum 151 = .ok (.iconst 1, 1) := by decide +kernel
theorem dX11_sum_152 : decode cX11_sum 152 = .ok (.isub, 1) := by decide +kernel
theorem dX11_sum_153 : decode cX11_sum 153 = .ok (.ireturn, 1) := by decide +kernel
theorem dX11_feed_0 : decode cX11_feed 0 = .ok (.aload_n 0, 1) := by decide +kernel
theorem dX11_feed_1 : decode cX11_feed 1 = .ok (.getfield 215, 3) := by decide +kernel
theorem dX11_feed_4 : decode cX11_feed 4 = .ok (.bipush 20, 2) := by decide +kernel
theorem dX11_feed_6 : decode cX11_feed 6 = .ok (.iadd, 1) := by decide +kernel
theorem dX11_feed_7 : decode cX11_feed 7 = .ok (.sipush 600, 3) := by decide +kernel
theorem dX11_feed_10 : decode cX11_feed 10 = .ok (.if_icmp .le 5, 3) := by decide +kernel
theorem dX11_feed_13 : decode cX11_feed 13 = .ok (.iconst (-1), 1) := by decide +kernel
theorem dX11_feed_14 : decode cX11_feed 14 = .ok (.ireturn, 1) := by decide +kernel
theorem dX11_feed_15 : decode cX11_feed 15 = .ok (.iconst 0, 1) := by decide +kernel
theorem dX11_feed_16 : decode cX11_feed 16 = .ok (.istore 6, 2) := by decide +kernel
theorem dX11_feed_18 : decode cX11_feed 18 = .ok (.iload 6, 2) := by decide +kernel
theorem dX11_feed_20 : decode cX11_feed 20 = .ok (.bipush 20, 2) := by decide +kernel
theorem dX11_feed_22 : decode cX11_feed 22 = .ok (.if_icmp .ge 93, 3) := by decide +kernel
theorem dX11_feed_25 : decode cX11_feed 25 = .ok (.iload 6, 2) := by decide +kernel
theorem dX11_feed_27 : decode cX11_feed 27 = .ok (.iconst 4, 1) := by decide +kernel
theorem dX11_feed_28 : decode cX11_feed 28 = .ok (.if_icmp .ge 7, 3) := by decide +kernel
theorem dX11_feed_31 : decode cX11_feed 31 = .ok (.iload_n 1, 1) := by decide +kernel
theorem dX11_feed_32 : decode cX11_feed 32 = .ok (.goto 39, 3) := by decide +kernel
theorem dX11_feed_35 : decode cX11_feed 35 = .ok (.iload 6, 2) := by decide +kernel
theorem dX11_feed_37 : decode cX11_feed 37 = .ok (.bipush 8, 2) := by decide +kernel
theorem dX11_feed_39 : decode cX11_feed 39 = .ok (.if_icmp .ge 7, 3) := by decide +kernel
theorem dX11_feed_42 : decode cX11_feed 42 = .ok (.iload_n 2, 1) := by decide +kernel
theorem dX11_feed_43 : decode cX11_feed 43 = .ok (.goto 28, 3) := by decide +kernel
theorem dX11_feed_46 : decode cX11_feed 46 = .ok (.iload 6, 2) := by decide +kernel
theorem dX11_feed_48 : decode cX11_feed 48 = .ok (.bipush 12, 2) := by decide +kernel
theorem dX11_feed_50 : decode cX11_feed 50 = .ok (.if_icmp .ge 7, 3) := by decide +kernel
theorem dX11_feed_53 : decode cX11_feed 53 = .ok (.iload_n 3, 1) := by decide +kernel
theorem dX11_feed_54 : decode cX11_feed 54 = .ok (.goto 17, 3) := by decide +kernel
theorem dX11_feed_57 : decode cX11_feed 57 = .ok (.iload 6, 2) := by decide +kernel
theorem dX11_feed_59 : decode cX11_feed 59 = .ok (.bipush 16, 2) := by decide +kernel
theorem dX11_feed_61 : decode cX11_feed 61 = .ok (.if_icmp .ge 8, 3) := by decide +kernel
theorem dX11_feed_64 : decode cX11_feed 64 = .ok (.iload 4, 2) := by decide +kernel
theorem dX11_feed_66 : decode cX11_feed 66 = .ok (.goto 5, 3) := by decide +kernel
theorem dX11_feed_69 : decode cX11_feed 69 = .ok (.iload 5, 2) := by decide +kernel
theorem dX11_feed_71 : decode cX11_feed 71 = .ok (.istore 7, 2) := by decide +kernel
theorem dX11_feed_73 : decode cX11_feed 73 = .ok (.aload_n 0, 1) := by decide +kernel
theorem dX11_feed_74 : decode cX11_feed 74 = .ok (.getfield 105, 3) := by decide +kernel
theorem dX11_feed_77 : decode cX11_feed 77 = .ok (.aload_n 0, 1) := by decide +kernel
theorem dX11_feed_78 : decode cX11_feed 78 = .ok (.getfield 215, 3) := by decide +kernel
theorem dX11_feed_81 : decode cX11_feed 81 = .ok (.iload 7, 2) := by decide +kernel
theorem dX11_feed_83 : decode cX11_feed 83 = .ok (.bipush 24, 2) := by decide +kernel
theorem dX11_feed_85 : decode cX11_feed 85 = .ok (.bipush 8, 2) := by decide +kernel
theorem dX11_feed_87 : decode cX11_feed 87 = .ok (.iload 6, 2) := by decide +kernel
theorem dX11_feed_89 : decode cX11_feed 89 = .ok (.iconst 4, 1) := by decide +kernel
theorem dX11_feed_90 : decode cX11_feed 90 = .ok (.irem, 1) := by decide +kernel
theorem dX11_feed_91 : decode cX11_feed 91 = .ok (.imul, 1) := by decide +kernel
theorem dX11_feed_92 : decode cX11_feed 92 = .ok (.isub, 1) := by decide +kernel
theorem dX11_feed_93 : decode cX11_feed 93 = .ok (.ishr, 1) := by decide +kernel
theorem dX11_feed_94 : decode cX11_feed 94 = .ok (.sipush 255, 3) := by decide +kernel
theorem dX11_feed_97 : decode cX11_feed 97 = .ok (.iand, 1) := by decide +kernel
theorem dX11_feed_98 : decode cX11_feed 98 = .ok (.iastore, 1) := by decide +kernel
theorem dX11_feed_99 : decode cX11_feed 99 = .ok (.aload_n 0, 1) := by decide +kernel
theorem dX11_feed_100 : decode cX11_feed 100 = .ok (.dup, 1) := by decide +kernel
theorem dX11_feed_101 : decode cX11_feed 101 = .ok (.getfield 215, 3) := by decide +kernel
theorem dX11_feed_104 : decode cX11_feed 104 = .ok (.iconst 1, 1) := by decide +kernel
theorem dX11_feed_105 : decode cX11_feed 105 = .ok (.iadd, 1) := by decide +kernel
theorem dX11_feed_106 : decode cX11_feed 106 = .ok (.putfield 215, 3) := by decide +kernel
theorem dX11_feed_109 : decode cX11_feed 109 = .ok (.iinc 6 1, 3) := by decide +kernel
theorem dX11_feed_112 : decode cX11_feed 112 = .ok (.goto (-94), 3) := by decide +kernel
theorem dX11_feed_115 : decode cX11_feed 115 = .ok (.aload_n 0, 1) := by decide +kernel
theorem dX11_feed_116 : decode cX11_feed 116 = .ok (.getfield 215, 3) := by decide +kernel
theorem dX11_feed_119 : decode cX11_feed 119 = .ok (.ireturn, 1) := by decide +kernel
theorem dX11_end_0 : decode cX11_end 0 = .ok (.iload_n 1, 1) := by decide +kernel
theorem dX11_end_1 : decode cX11_end 1 = .ok (.iconst 0, 1) := by decide +kernel
theorem dX11_end_2 : decode cX11_end 2 = .ok (.aload_n 0, 1) := by decide +kernel
theorem dX11_end_3 : decode cX11_end 3 = .ok (.getfield 215, 3) := by decide +kernel
theorem dX11_end_6 : decode cX11_end 6 = .ok (.invokestatic 1, 3) := by decide +kernel
theorem dX11_end_9 : decode cX11_end 9 = .ok (.ifCond .ne 5, 3) := by decide +kernel
theorem dX11_end_12 : decode cX11_end 12 = .ok (.iconst 0, 1) := by decide +kernel
theorem dX11_end_13 : decode cX11_end 13 = .ok (.ireturn, 1) := by decide +kernel
theorem dX11_end_14 : decode cX11_end 14 = .ok (.aload_n 0, 1) := by decide +kernel
theorem dX11_end_15 : decode cX11_end 15 = .ok (.iload_n 1, 1) := by decide +kernel
theorem dX11_end_16 : decode cX11_end 16 = .ok (.putfield 215, 3) := by decide +kernel
theorem dX11_end_19 : decode cX11_end 19 = .ok (.iconst 1, 1) := by decide +kernel
theorem dX11_end_20 : decode cX11_end 20 = .ok (.ireturn, 1) := by decide +kernel
theorem dX11_see_0 : decode cX11_see 0 = .ok (.iload_n 1, 1) := by decide +kernel
theorem dX11_see_1 : decode cX11_see 1 = .ok (.aload_n 0, 1) := by decide +kernel
theorem dX11_see_2 : decode cX11_see 2 = .ok (.getfield 215, 3) := by decide +kernel
theorem dX11_see_5 : decode cX11_see 5 = .ok (.if_icmp .ge 12, 3) := by decide +kernel
theorem dX11_see_8 : decode cX11_see 8 = .ok (.aload_n 0, 1) := by decide +kernel
theorem dX11_see_9 : decode cX11_see 9 = .ok (.getfield 105, 3) := by decide +kernel
theorem dX11_see_12 : decode cX11_see 12 = .ok (.iload_n 1, 1) := by decide +kernel
theorem dX11_see_13 : decode cX11_see 13 = .ok (.iaload, 1) := by decide +kernel
theorem dX11_see_14 : decode cX11_see 14 = .ok (.goto 4, 3) := by decide +kernel
theorem dX11_see_17 : decode cX11_see 17 = .ok (.iconst (-1), 1) := by decide +kernel
theorem dX11_see_18 : decode cX11_see 18 = .ok (.ireturn, 1) := by decide +kernel
theorem dX11_isLetter_0 : decode cX11_isLetter 0 = .ok (.iload_n 0, 1) := by decide +kernel
theorem dX11_isLetter_1 : decode cX11_isLetter 1 = .ok (.bipush 97, 2) := by decide +kernel
theorem dX11_isLetter_3 : decode cX11_isLetter 3 = .ok (.bipush 122, 2) := by decide +kernel
theorem dX11_isLetter_5 : decode cX11_isLetter 5 = .ok (.invokestatic 1, 3) := by decide +kernel
theorem dX11_isLetter_8 : decode cX11_isLetter 8 = .ok (.ifCond .ne 14, 3) := by decide +kernel
theorem dX11_isLetter_11 : decode cX11_isLetter 11 = .ok (.iload_n 0, 1) := by decide +kernel
theorem dX11_isLetter_12 : decode cX11_isLetter 12 = .ok (.bipush 65, 2) := by decide +kernel
theorem dX11_isLetter_14 : decode cX11_isLetter 14 = .ok (.bipush 90, 2) := by decide +kernel
theorem dX11_isLetter_16 : decode cX11_isLetter 16 = .ok (.invokestatic 1, 3) := by decide +kernel
theorem dX11_isLetter_19 : decode cX11_isLetter 19 = .ok (.ifCond .eq 7, 3) := by decide +kernel
theorem dX11_isLetter_22 : decode cX11_isLetter 22 = .ok (.iconst 1, 1) := by decide +kernel
theorem dX11_isLetter_23 : decode cX11_isLetter 23 = .ok (.goto 4, 3) := by decide +kernel
theorem dX11_isLetter_26 : decode cX11_isLetter 26 = .ok (.iconst 0, 1) := by decide +kernel
theorem dX11_isLetter_27 : decode cX11_isLetter 27 = .ok (.ireturn, 1) := by decide +kernel
theorem dX11_isDigit_0 : decode cX11_isDigit 0 = .ok (.iload_n 0, 1) := by decide +kernel
theorem dX11_isDigit_1 : decode cX11_isDigit 1 = .ok (.bipush 48, 2) := by decide +kernel
theorem dX11_isDigit_3 : decode cX11_isDigit 3 = .ok (.bipush 57, 2) := by decide +kernel
theorem dX11_isDigit_5 : decode cX11_isDigit 5 = .ok (.invokestatic 1, 3) := by decide +kernel
theorem dX11_isDigit_8 : decode cX11_isDigit 8 = .ok (.ireturn, 1) := by decide +kernel
theorem dX11_is_0 : decode cX11_is 0 = .ok (.aload_n 0, 1) := by decide +kernel
theorem dX11_is_1 : decode cX11_is 1 = .ok (.getfield 218, 3) := by decide +kernel
theorem dX11_is_4 : decode cX11_is 4 = .ok (.aload_n 0, 1) := by decide +kernel
theorem dX11_is_5 : decode cX11_is 5 = .ok (.getfield 221, 3) := by decide +kernel
theorem dX11_is_8 : decode cX11_is 8 = .ok (.isub, 1) := by decide +kernel
theorem dX11_is_9 : decode cX11_is 9 = .ok (.aload_n 1, 1) := by decide +kernel
theorem dX11_is_10 : decode cX11_is 10 = .ok (.invokevirtual 224, 3) := by decide +kernel
theorem dX11_is_13 : decode cX11_is 13 = .ok (.if_icmp .ne 7, 3) := by decide +kernel
theorem dX11_is_16 : decode cX11_is 16 = .ok (.iconst 1, 1) := by decide +kernel
theorem dX11_is_17 : decode cX11_is 17 = .ok (.goto 4, 3) := by decide +kernel
theorem dX11_is_20 : decode cX11_is 20 = .ok (.iconst 0, 1) := by decide +kernel
theorem dX11_is_21 : decode cX11_is 21 = .ok (.istore_n 2, 1) := by decide +kernel
theorem dX11_is_22 : decode cX11_is 22 = .ok (.iconst 0, 1) := by decide +kernel
theorem dX11_is_23 : decode cX11_is 23 = .ok (.istore_n 3, 1) := by decide +kernel
theorem dX11_is_24 : decode cX11_is 24 = .ok (.iload_n 3, 1) := by decide +kernel
theorem dX11_is_25 : decode cX11_is 25 = .ok (.aload_n 1, 1) := by decide +kernel
theorem dX11_is_26 : decode cX11_is 26 = .ok (.invokevirtual 224, 3) := by decide +kernel
theorem dX11_is_29 : decode cX11_is 29 = .ok (.if_icmp .ge 38, 3) := by decide +kernel
theorem dX11_is_32 : decode cX11_is 32 = .ok (.iload_n 2, 1) := by decide +kernel
theorem dX11_is_33 : decode cX11_is 33 = .ok (.ifCond .eq 34, 3) := by decide +kernel
theorem dX11_is_36 : decode cX11_is 36 = .ok (.aload_n 0, 1) := by decide +kernel
theorem dX11_is_37 : decode cX11_is 37 = .ok (.getfield 105, 3) := by decide +kernel
theorem dX11_is_40 : decode cX11_is 40 = .ok (.aload_n 0, 1) := by decide +kernel
theorem dX11_is_41 : decode cX11_is 41 = .ok (.getfield 221, 3) := by decide +kernel
theorem dX11_is_44 : decode cX11_is 44 = .ok (.iload_n 3, 1) := by decide +kernel
theorem dX11_is_45 : decode cX11_is 45 = .ok (.iadd, 1) := by decide +kernel
theorem dX11_is_46 : decode cX11_is 46 = .ok (.iaload, 1) := by decide +kernel
theorem dX11_is_47 : decode cX11_is 47 = .ok (.aload_n 1, 1) := by decide +kernel
theorem dX11_is_48 : decode cX11_is 48 = .ok (.iload_n 3, 1) := by decide +kernel
theorem dX11_is_49 : decode cX11_is 49 = .ok (.invokevirtual 230, 3) := by decide +kernel
theorem dX11_is_52 : decode cX11_is 52 = .ok (.if_icmp .ne 7, 3) := by decide +kernel
theorem dX11_is_55 : decode cX11_is 55 = .ok (.iconst 1, 1) := by decide +kernel
theorem dX11_is_56 : decode cX11_is 56 = .ok (.goto 4, 3) := by decide +kernel
theorem dX11_is_59 : decode cX11_is 59 = .ok (.iconst 0, 1) := by decide +kernel
theorem dX11_is_60 : decode cX11_is 60 = .ok (.istore_n 2, 1) := by decide +kernel
theorem dX11_is_61 : decode cX11_is 61 = .ok (.iinc 3 1, 3) := by decide +kernel
theorem dX11_is_64 : decode cX11_is 64 = .ok (.goto (-40), 3) := by decide +kernel
theorem dX11_is_67 : decode cX11_is 67 = .ok (.iload_n 2, 1) := by decide +kernel
theorem dX11_is_68 : decode cX11_is 68 = .ok (.ireturn, 1) := by decide +kernel
theorem dX11_kindWord_0 : decode cX11_kindWord 0 = .ok (.aload_n 0, 1) := by decide +kernel
theorem dX11_kindWord_1 : decode cX11_kindWord 1 = .ok (.ldc 234, 2) := by decide +kernel
theorem dX11_kindWord_3 : decode cX11_kindWord 3 = .ok (.invokevirtual 236, 3) := by decide +kernel
theorem dX11_kindWord_6 : decode cX11_kindWord 6 = .ok (.ifCond .eq 6, 3) := by decide +kernel
theorem dX11_kindWord_9 : decode cX11_kindWord 9 = .ok (.bipush 40, 2) := by decide +kernel
theorem dX11_kindWord_11 : decode cX11_kindWord 11 = .ok (.ireturn, 1) := by decide +kernel
theorem dX11_kindWord_12 : decode cX11_kindWord 12 = .ok (.aload_n 0, 1) := by decide +kernel
theorem dX11_kindWord_13 : decode cX11_kindWord 13 = .ok (.ldc 240, 2) := by decide +kernel
theorem dX11_kindWord_15 : decode cX11_kindWord 15 = .ok (.invokevirtual 236, 3) := by decide +kernel
theorem dX11_kindWord_18 : decode cX11_kindWord 18 = .ok (.ifCond .eq 6, 3) := by decide +kernel
theorem dX11_kindWord_21 : decode cX11_kindWord 21 = .ok (.bipush 41, 2) := by decide +kernel
theorem dX11_kindWord_23 : decode cX11_kindWord 23 = .ok (.ireturn, 1) := by decide +kernel
theorem dX11_kindWord_24 : decode cX11_kindWord 24 = .ok (.aload_n 0, 1) := by decide +kernel
theorem dX11_kindWord_25 : decode cX11_kindWord 25 = .ok (.ldc 242, 2) := by decide +kernel
theorem dX11_kindWord_27 : decode cX11_kindWord 27 = .ok (.invokevirtual 236, 3) := by decide +kernel
theorem dX11_kindWord_30 : decode cX11_kindWord 30 = .ok (.ifCond .eq 6, 3) := by decide +kernel
theorem dX11_kindWord_33 : decode cX11_kindWord 33 = .ok (.bipush 42, 2) := by decide +kernel
theorem dX11_kindWord_35 : decode cX11_kindWord 35 = .ok (.ireturn, 1) := by decide +kernel
theorem dX11_kindWord_36 : decode cX11_kindWord 36 = .ok (.aload_n 0, 1) := by decide +kernel
theorem dX11_kindWord_37 : decode cX11_kindWord 37 = .ok (.ldc 244, 2) := by decide +kernel
theorem dX11_kindWord_39 : decode cX11_kindWord 39 = .ok (.invokevirtual 236, 3) := by decide +kernel
theorem dX11_kindWord_42 : decode cX11_kindWord 42 = .ok (.ifCond .eq 6, 3) := by decide +kernel
theorem dX11_kindWord_45 : decode cX11_kindWord 45 = .ok (.bipush 43, 2) := by decide +kernel
theorem dX11_kindWord_47 : decode cX11_kindWord 47 = .ok (.ireturn, 1) := by decide +kernel
theorem dX11_kindWord_48 : decode cX11_kindWord 48 = .ok (.aload_n 0, 1) := by decide +kernel
theorem dX11_kindWord_49 : decode cX11_kindWord 49 = .ok (.ldc 246, 2) := by decide +kernel
theorem dX11_kindWord_51 : decode cX11_kindWord 51 = .ok (.invokevirtual 236, 3) := by decide +kernel
theorem dX11_kindWord_54 : decode cX11_kindWord 54 = .ok (.ifCond .eq 6, 3) := by decide +kernel
theorem dX11_kindWord_57 : decode cX11_kindWord 57 = .ok (.bipush 44, 2) := by decide +kernel
theorem dX11_kindWord_59 : decode cX11_kindWord 59 = .ok (.ireturn, 1) := by decide +kernel
theorem dX11_kindWord_60 : decode cX11_kindWord 60 = .ok (.aload_n 0, 1) := by decide +kernel
theorem dX11_kindWord_61 : decode cX11_kindWord 61 = .ok (.ldc 248, 2) := by decide +kernel
theorem dX11_kindWord_63 : decode cX11_kindWord 63 = .ok (.invokevirtual 236, 3) := by decide +kernel
theorem dX11_kindWord_66 : decode cX11_kindWord 66 = .ok (.ifCond .eq 6, 3) := by decide +kernel
theorem dX11_kindWord_69 : decode cX11_kindWord 69 = .ok (.bipush 45, 2) := by decide +kernel
theorem dX11_kindWord_71 : decode cX11_kindWord 71 = .ok (.ireturn, 1) := by decide +kernel
theorem dX11_kindWord_72 : decode cX11_kindWord 72 = .ok (.aload_n 0, 1) := by decide +kernel
theorem dX11_kindWord_73 : decode cX11_kindWord 73 = .ok (.ldc 250, 2) := by decide +kernel
theorem dX11_kindWord_75 : decode cX11_kindWord 75 = .ok (.invokevirtual 236, 3) := by decide +kernel
theorem dX11_kindWord_78 : decode cX11_kindWord 78 = .ok (.ifCond .eq 6, 3) := by decide +kernel
theorem dX11_kindWord_81 : decode cX11_kindWord 81 = .ok (.bipush 61, 2) := by decide +kernel
theorem dX11_kindWord_83 : decode cX11_kindWord 83 = .ok (.ireturn, 1) := by decide +kernel
theorem dX11_kindWord_84 : decode cX11_kindWord 84 = .ok (.aload_n 0, 1) := by decide +kernel
theorem dX11_kindWord_85 : decode cX11_kindWord 85 = .ok (.ldc 251, 2) := by decide +kernel
theorem dX11_kindWord_87 : decode cX11_kindWord 87 = .ok (.invokevirtual 236, 3) := by decide +kernel
theorem dX11_kindWord_90 : decode cX11_kindWord 90 = .ok (.ifCond .eq 6, 3) := by decide +kernel
theorem dX11_kindWord_93 : decode cX11_kindWord 93 = .ok (.bipush 62, 2) := by decide +kernel
theorem dX11_kindWord_95 : decode cX11_kindWord 95 = .ok (.ireturn, 1) := by decide +kernel
theorem dX11_kindWord_96 : decode cX11_kindWord 96 = .ok (.aload_n 0, 1) := by decide +kernel
theorem dX11_kindWord_97 : decode cX11_kindWord 97 = .ok (.ldc 253, 2) := by decide +kernel
theorem dX11_kindWord_99 : decode cX11_kindWord 99 = .ok (.invokevirtual 236, 3) := by decide +kernel
theorem dX11_kindWord_102 : decode cX11_kindWord 102 = .ok (.ifCond .eq 6, 3) := by decide +kernel
theorem dX11_kindWord_105 : decode cX11_kindWord 105 = .ok (.bipush 63, 2) := by decide +kernel
theorem dX11_kindWord_107 : decode cX11_kindWord 107 = .ok (.ireturn, 1) := by decide +kernel
theorem dX11_kindWord_108 : decode cX11_kindWord 108 = .ok (.aload_n 0, 1) := by decide +kernel
theorem dX11_kindWord_109 : decode cX11_kindWord 109 = .ok (.ldc 255, 2) := by decide +kernel
theorem dX11_kindWord_111 : decode cX11_kindWord 111 = .ok (.invokevirtual 236, 3) := by decide +kernel
theorem dX11_kindWord_114 : decode cX11_kindWord 114 = .ok (.ifCond .eq 6, 3) := by decide +kernel
theorem dX11_kindWord_117 : decode cX11_kindWord 117 = .ok (.bipush 64, 2) := by decide +kernel
theorem dX11_kindWord_119 : decode cX11_kindWord 119 = .ok (.ireturn, 1) := by decide +kernel
theorem dX11_kindWord_120 : decode cX11_kindWord 120 = .ok (.aload_n 0, 1) := by decide +kernel
theorem dX11_kindWord_121 : decode cX11_kindWord 121 = .ok (.ldc_w 257, 3) := by decide +kernel
theorem dX11_kindWord_124 : decode cX11_kindWord 124 = .ok (.invokevirtual 236, 3) := by decide +kernel
theorem dX11_kindWord_127 : decode cX11_kindWord 127 = .ok (.ifCond .eq 6, 3) := by decide +kernel
theorem dX11_kindWord_130 : decode cX11_kindWord 130 = .ok (.bipush 65, 2) := by decide +kernel
theorem dX11_kindWord_132 : decode cX11_kindWord 132 = .ok (.ireturn, 1) := by decide +kernel
theorem dX11_kindWord_133 : decode cX11_kindWord 133 = .ok (.aload_n 0, 1) := by decide +kernel
theorem dX11_kindWord_134 : decode cX11_kindWord 134 = .ok (.ldc_w 259, 3) := by decide +kernel
theorem dX11_kindWord_137 : decode cX11_kindWord 137 = .ok (.invokevirtual 236, 3) := by decide +kernel
theorem dX11_kindWord_140 : decode cX11_kindWord 140 = .ok (.ifCond .eq 6, 3) := by decide +kernel
theorem dX11_kindWord_143 : decode cX11_kindWord 143 = .ok (.bipush 66, 2) := by decide +kernel
theorem dX11_kindWord_145 : decode cX11_kindWord 145 = .ok (.ireturn, 1) := by decide +kernel
theorem dX11_kindWord_146 : decode cX11_kindWord 146 = .ok (.aload_n 0, 1) := by decide +kernel
theorem dX11_kindWord_147 : decode cX11_kindWord 147 = .ok (.ldc_w 261, 3) := by decide +kernel
theorem dX11_kindWord_150 : decode cX11_kindWord 150 = .ok (.invokevirtual 236, 3) := by decide +kernel
theorem dX11_kindWord_153 : decode cX11_kindWord 153 = .ok (.ifCond .eq 6, 3) := by decide +kernel
theorem dX11_kindWord_156 : decode cX11_kindWord 156 = .ok (.bipush 67, 2) := by decide +kernel
theorem dX11_kindWord_158 : decode cX11_kindWord 158 = .ok (.ireturn, 1) := by decide +kernel
theorem dX11_kindWord_159 : decode cX11_kindWord 159 = .ok (.aload_n 0, 1) := by decide +kernel
theorem dX11_kindWord_160 : decode cX11_kindWord 160 = .ok (.ldc_w 263, 3) := by decide +kernel
theorem dX11_kindWord_163 : decode cX11_kindWord 163 = .ok (.invokevirtual 236, 3) := by decide +kernel
theorem dX11_kindWord_166 : decode cX11_kindWord 166 = .ok (.ifCond .eq 8, 3) := by decide +kernel
theorem dX11_kindWord_169 : decode cX11_kindWord 169 = .ok (.bipush 68, 2) := by decide +kernel
theorem dX11_kindWord_171 : decode cX11_kindWord 171 = .ok (.goto 4, 3) := by decide +kernel
theorem dX11_kindWord_174 : decode cX11_kindWord 174 = .ok (.iconst 1, 1) := by decide +kernel
theorem dX11_kindWord_175 : decode cX11_kindWord 175 = .ok (.ireturn, 1) := by decide +kernel
theorem dX11_word_0 : decode cX11_word 0 = .ok (.aload_n 0, 1) := by decide +kernel
theorem dX11_word_1 : decode cX11_word 1 = .ok (.ldc_w 264, 3) := by decide +kernel
theorem dX11_word_4 : decode cX11_word 4 = .ok (.invokevirtual 236, 3) := by decide +kernel
theorem dX11_word_7 : decode cX11_word 7 = .ok (.ifCond .eq 6, 3) := by decide +kernel
theorem dX11_word_10 : decode cX11_word 10 = .ok (.bipush 20, 2) := by decide +kernel
theorem dX11_word_12 : decode cX11_word 12 = .ok (.ireturn, 1) := by decide +kernel
theorem dX11_word_13 : decode cX11_word 13 = .ok (.aload_n 0, 1) := by decide +kernel
theorem dX11_word_14 : decode cX11_word 14 = .ok (.ldc_w 266, 3) := by decide +kernel
theorem dX11_word_17 : decode cX11_word 17 = .ok (.invokevirtual 236, 3) := by decide +kernel
theorem dX11_word_20 : decode cX11_word 20 = .ok (.ifCond .eq 6, 3) := by decide +kernel
theorem dX11_word_23 : decode cX11_word 23 = .ok (.bipush 21, 2) := by decide +kernel
theorem dX11_word_25 : decode cX11_word 25 = .ok (.ireturn, 1) := by decide +kernel
theorem dX11_word_26 : decode cX11_word 26 = .ok (.aload_n 0, 1) := by decide +kernel
theorem dX11_word_27 : decode cX11_word 27 = .ok (.ldc_w 268, 3) := by decide +kernel
theorem dX11_word_30 : decode cX11_word 30 = .ok (.invokevirtual 236, 3) := by decide +kernel
theorem dX11_word_33 : decode cX11_word 33 = .ok (.ifCond .eq 6, 3) := by decide +kernel
theorem dX11_word_36 : decode cX11_word 36 = .ok (.bipush 22, 2) := by decide +kernel
theorem dX11_word_38 : decode cX11_word 38 = .ok (.ireturn, 1) := by decide +kernel
theorem dX11_word_39 : decode cX11_word 39 = .ok (.aload_n 0, 1) := by decide +kernel
theorem dX11_word_40 : decode cX11_word 40 = .ok (.ldc_w 270, 3) := by decide +kernel
theorem dX11_word_43 : decode cX11_word 43 = .ok (.invokevirtual 236, 3) := by decide +kernel
theorem dX11_word_46 : decode cX11_word 46 = .ok (.ifCond .eq 6, 3) := by decide +kernel
theorem dX11_word_49 : decode cX11_word 49 = .ok (.bipush 23, 2) := by decide +kernel
theorem dX11_word_51 : decode cX11_word 51 = .ok (.ireturn, 1) := by decide +kernel
theorem dX11_word_52 : decode cX11_word 52 = .ok (.aload_n 0, 1) := by decide +kernel
theorem dX11_word_53 : decode cX11_word 53 = .ok (.ldc_w 271, 3) := by decide +kernel
theorem dX11_word_56 : decode cX11_word 56 = .ok (.invokevirtual 236, 3) := by decide +kernel
theorem dX11_word_59 : decode cX11_word 59 = .ok (.ifCond .eq 6, 3) := by decide +kernel
theorem dX11_word_62 : decode cX11_word 62 = .ok (.bipush 24, 2) := by decide +kernel
theorem dX11_word_64 : decode cX11_word 64 = .ok (.ireturn, 1) := by decide +kernel
theorem dX11_word_65 : decode cX11_word 65 = .ok (.aload_n 0, 1) := by decide +kernel
theorem dX11_word_66 : decode cX11_word 66 = .ok (.ldc_w 272, 3) := by decide +kernel
theorem dX11_word_69 : decode cX11_word 69 = .ok (.invokevirtual 236, 3) := by decide +kernel
theorem dX11_word_72 : decode cX11_word 72 = .ok (.ifCond .eq 6, 3) := by decide +kernel
theorem dX11_word_75 : decode cX11_word 75 = .ok (.bipush 25, 2) := by decide +kernel
theorem dX11_word_77 : decode cX11_word 77 = .ok (.ireturn, 1) := by decide +kernel
theorem dX11_word_78 : decode cX11_word 78 = .ok (.aload_n 0, 1) := by decide +kernel
theorem dX11_word_79 : decode cX11_word 79 = .ok (.ldc_w 274, 3) := by decide +kernel
theorem dX11_word_82 : decode cX11_word 82 = .ok (.invokevirtual 236, 3) := by decide +kernel
theorem dX11_word_85 : decode cX11_word 85 = .ok (.ifCond .eq 6, 3) := by decide +kernel
theorem dX11_word_88 : decode cX11_word 88 = .ok (.bipush 26, 2) := by decide +kernel
theorem dX11_word_90 : decode cX11_word 90 = .ok (.ireturn, 1) := by decide +kernel
theorem dX11_word_91 : decode cX11_word 91 = .ok (.aload_n 0, 1) := by decide +kernel
theorem dX11_word_92 : decode cX11_word 92 = .ok (.ldc_w 275, 3) := by decide +kernel
theorem dX11_word_95 : decode cX11_word 95 = .ok (.invokevirtual 236, 3) := by decide +kernel
theorem dX11_word_98 : decode cX11_word 98 = .ok (.ifCond .eq 6, 3) := by decide +kernel
theorem dX11_word_101 : decode cX11_word 101 = .ok (.bipush 27, 2) := by decide +kernel
theorem dX11_word_103 : decode cX11_word 103 = .ok (.ireturn, 1) := by decide +kernel
theorem dX11_word_104 : decode cX11_word 104 = .ok (.aload_n 0, 1) := by decide +kernel
theorem dX11_word_105 : decode cX11_word 105 = .ok (.ldc_w 276, 3) := by decide +kernel
theorem dX11_word_108 : decode cX11_word 108 = .ok (.invokevirtual 236, 3) := by decide +kernel
theorem dX11_word_111 : decode cX11_word 111 = .ok (.ifCond .eq 6, 3) := by decide +kernel
theorem dX11_word_114 : decode cX11_word 114 = .ok (.bipush 28, 2) := by decide +kernel
theorem dX11_word_116 : decode cX11_word 116 = .ok (.ireturn, 1) := by decide +kernel
theorem dX11_word_117 : decode cX11_word 117 = .ok (.aload_n 0, 1) := by decide +kernel
theorem dX11_word_118 : decode cX11_word 118 = .ok (.ldc_w 277, 3) := by decide +kernel
theorem dX11_word_121 : decode cX11_word 121 = .ok (.invokevirtual 236, 3) := by decide +kernel
theorem dX11_word_124 : decode cX11_word 124 = .ok (.ifCond .eq 5, 3) := by decide +kernel
theorem dX11_word_127 : decode cX11_word 127 = .ok (.iconst 3, 1) := by decide +kernel
theorem dX11_word_128 : decode cX11_word 128 = .ok (.ireturn, 1) := by decide +kernel
theorem dX11_word_129 : decode cX11_word 129 = .ok (.aload_n 0, 1) := by decide +kernel
theorem dX11_word_130 : decode cX11_word 130 = .ok (.ldc_w 279, 3) := by decide +kernel
theorem dX11_word_133 : decode cX11_word 133 = .ok (.invokevirtual 236, 3) := by decide +kernel
theorem dX11_word_136 : decode cX11_word 136 = .ok (.ifCond .eq 5, 3) := by decide +kernel
theorem dX11_word_139 : decode cX11_word 139 = .ok (.iconst 4, 1) := by decide +kernel
theorem dX11_word_140 : decode cX11_word 140 = .ok (.ireturn, 1) := by decide +kernel
theorem dX11_word_141 : decode cX11_word 141 = .ok (.aload_n 0, 1) := by decide +kernel
theorem dX11_word_142 : decode cX11_word 142 = .ok (.ldc_w 281, 3) := by decide +kernel
theorem dX11_word_145 : decode cX11_word 145 = .ok (.invokevirtual 236, 3) := by decide +kernel
theorem dX11_word_148 : decode cX11_word 148 = .ok (.ifCond .eq 5, 3) := by decide +kernel
theorem dX11_word_151 : decode cX11_word 151 = .ok (.iconst 5, 1) := by decide +kernel
theorem dX11_word_152 : decode cX11_word 152 = .ok (.ireturn, 1) := by decide +kernel
theorem dX11_word_153 : decode cX11_word 153 = .ok (.aload_n 0, 1) := by decide +kernel
theorem dX11_word_154 : decode cX11_word 154 = .ok (.ldc_w 283, 3) := by decide +kernel
theorem dX11_word_157 : decode cX11_word 157 = .ok (.invokevirtual 236, 3) := by decide +kernel
theorem dX11_word_160 : decode cX11_word 160 = .ok (.ifCond .eq 6, 3) := by decide +kernel
theorem dX11_word_163 : decode cX11_word 163 = .ok (.bipush 6, 2) := by decide +kernel
theorem dX11_word_165 : decode cX11_word 165 = .ok (.ireturn, 1) := by decide +kernel
theorem dX11_word_166 : decode cX11_word 166 = .ok (.aload_n 0, 1) := by decide +kernel
theorem dX11_word_167 : decode cX11_word 167 = .ok (.ldc_w 285, 3) := by decide +kernel
theorem dX11_word_170 : decode cX11_word 170 = .ok (.invokevirtual 236, 3) := by decide +kernel
theorem dX11_word_173 : decode cX11_word 173 = .ok (.ifCond .eq 6, 3) := by decide +kernel
theorem dX11_word_176 : decode cX11_word 176 = .ok (.bipush 7, 2) := by decide +kernel
theorem dX11_word_178 : decode cX11_word 178 = .ok (.ireturn, 1) := by decide +kernel
theorem dX11_word_179 : decode cX11_word 179 = .ok (.aload_n 0, 1) := by decide +kernel
theorem dX11_word_180 : decode cX11_word 180 = .ok (.ldc_w 287, 3) := by decide +kernel
theorem dX11_word_183 : decode cX11_word 183 = .ok (.invokevirtual 236, 3) := by decide +kernel
theorem dX11_word_186 : decode cX11_word 186 = .ok (.ifCond .eq 8, 3) := by decide +kernel
theorem dX11_word_189 : decode cX11_word 189 = .ok (.bipush 8, 2) := by decide +kernel
theorem dX11_word_191 : decode cX11_word 191 = .ok (.goto 7, 3) := by decide +kernel
theorem dX11_word_194 : decode cX11_word 194 = .ok (.aload_n 0, 1) := by decide +kernel
theorem dX11_word_195 : decode cX11_word 195 = .ok (.invokevirtual 289, 3) := by decide +kernel
theorem dX11_word_198 : decode cX11_word 198 = .ok (.ireturn, 1) := by decide +kernel
theorem dX11_next0_0 : decode cX11_next0 0 = .ok (.aload_n 0, 1) := by decide +kernel
theorem dX11_next0_1 : decode cX11_next0 1 = .ok (.aload_n 0, 1) := by decide +kernel
theorem dX11_next0_2 : decode cX11_next0 2 = .ok (.getfield 218, 3) := by decide +kernel
theorem dX11_next0_5 : decode cX11_next0 5 = .ok (.invokevirtual 292, 3) := by decide +kernel
theorem dX11_next0_8 : decode cX11_next0 8 = .ok (.bipush 32, 2) := by decide +kernel
theorem dX11_next0_10 : decode cX11_next0 10 = .ok (.if_icmp .eq 16, 3) := by decide +kernel
theorem dX11_next0_13 : decode cX11_next0 13 = .ok (.aload_n 0, 1) := by decide +kernel
theorem dX11_next0_14 : decode cX11_next0 14 = .ok (.aload_n 0, 1) := by decide +kernel
theorem dX11_next0_15 : decode cX11_next0 15 = .ok (.getfield 218, 3) := by decide +kernel
theorem dX11_next0_18 : decode cX11_next0 18 = .ok (.invokevirtual 292, 3) := by decide +kernel
theorem dX11_next0_21 : decode cX11_next0 21 = .ok (.bipush 10, 2) := by decide +kernel
theorem dX11_next0_23 : decode cX11_next0 23 = .ok (.if_icmp .ne 16, 3) := by decide +kernel
theorem dX11_next0_26 : decode cX11_next0 26 = .ok (.aload_n 0, 1) := by decide +kernel
theorem dX11_next0_27 : decode cX11_next0 27 = .ok (.dup, 1) := by decide +kernel
theorem dX11_next0_28 : decode cX11_next0 28 = .ok (.getfield 218, 3) := by decide +kernel
theorem dX11_next0_31 : decode cX11_next0 31 = .ok (.iconst 1, 1) := by decide +kernel
theorem dX11_next0_32 : decode cX11_next0 32 = .ok (.iadd, 1) := by decide +kernel
theorem dX11_next0_33 : decode cX11_next0 33 = .ok (.putfield 218, 3) := by decide +kernel
theorem dX11_next0_36 : decode cX11_next0 36 = .ok (.goto (-36), 3) := by decide +kernel
theorem dX11_next0_39 : decode cX11_next0 39 = .ok (.aload_n 0, 1) := by decide +kernel
theorem dX11_next0_40 : decode cX11_next0 40 = .ok (.aload_n 0, 1) := by decide +kernel
theorem dX11_next0_41 : decode cX11_next0 41 = .ok (.getfield 218, 3) := by decide +kernel
theorem dX11_next0_44 : decode cX11_next0 44 = .ok (.putfield 221, 3) := by decide +kernel
theorem dX11_next0_47 : decode cX11_next0 47 = .ok (.aload_n 0, 1) := by decide +kernel
theorem dX11_next0_48 : decode cX11_next0 48 = .ok (.aload_n 0, 1) := by decide +kernel
theorem dX11_next0_49 : decode cX11_next0 49 = .ok (.getfield 218, 3) := by decide +kernel
theorem dX11_next0_52 : decode cX11_next0 52 = .ok (.invokevirtual 292, 3) := by decide +kernel
theorem dX11_next0_55 : decode cX11_next0 55 = .ok (.istore_n 1, 1) := by decide +kernel
theorem dX11_next0_56 : decode cX11_next0 56 = .ok (.iload_n 1, 1) := by decide +kernel
theorem dX11_next0_57 : decode cX11_next0 57 = .ok (.iconst (-1), 1) := by decide +kernel
theorem dX11_next0_58 : decode cX11_next0 58 = .ok (.if_icmp .ne 11, 3) := by decide +kernel
theorem dX11_next0_61 : decode cX11_next0 61 = .ok (.aload_n 0, 1) := by decide +kernel
theorem dX11_next0_62 : decode cX11_next0 62 = .ok (.iconst 0, 1) := by decide +kernel
theorem dX11_next0_63 : decode cX11_next0 63 = .ok (.putfield 296, 3) := by decide +kernel
theorem dX11_next0_66 : decode cX11_next0 66 = .ok (.goto 242, 3) := by decide +kernel
theorem dX11_next0_69 : decode cX11_next0 69 = .ok (.iload_n 1, 1) := by decide +kernel
theorem dX11_next0_70 : decode cX11_next0 70 = .ok (.invokestatic 299, 3) := by decide +kernel
theorem dX11_next0_73 : decode cX11_next0 73 = .ok (.ifCond .eq 41, 3) := by decide +kernel
theorem dX11_next0_76 : decode cX11_next0 76 = .ok (.aload_n 0, 1) := by decide +kernel
theorem dX11_next0_77 : decode cX11_next0 77 = .ok (.aload_n 0, 1) := by decide +kernel
theorem dX11_next0_78 : decode cX11_next0 78 = .ok (.getfield 218, 3) := by decide +kernel
theorem dX11_next0_81 : decode cX11_next0 81 = .ok (.invokevirtual 292, 3) := by decide +kernel
theorem dX11_next0_84 : decode cX11_next0 84 = .ok (.invokestatic 299, 3) := by decide +kernel
theorem dX11_next0_87 : decode cX11_next0 87 = .ok (.ifCond .eq 16, 3) := by decide +kernel
theorem dX11_next0_90 : decode cX11_next0 90 = .ok (.aload_n 0, 1) := by decide +kernel
theorem dX11_next0_91 : decode cX11_next0 91 = .ok (.dup, 1) := by decide +kernel
theorem dX11_next0_92 : decode cX11_next0 92 = .ok (.getfield 218, 3) := by decide +kernel
theorem dX11_next0_95 : decode cX11_next0 95 = .ok (.iconst 1, 1) := by decide +kernel
theorem dX11_next0_96 : decode cX11_next0 96 = .ok (.iadd, 1) := by decide +kernel
theorem dX11_next0_97 : decode cX11_next0 97 = .ok (.putfield 218, 3) := by decide +kernel
theorem dX11_next0_100 : decode cX11_next0 100 = .ok (.goto (-24), 3) := by decide +kernel
theorem dX11_next0_103 : decode cX11_next0 103 = .ok (.aload_n 0, 1) := by decide +kernel
theorem dX11_next0_104 : decode cX11_next0 104 = .ok (.aload_n 0, 1) := by decide +kernel
theorem dX11_next0_105 : decode cX11_next0 105 = .ok (.invokevirtual 302, 3) := by decide +kernel
theorem dX11_next0_108 : decode cX11_next0 108 = .ok (.putfield 296, 3) := by decide +kernel
theorem dX11_next0_111 : decode cX11_next0 111 = .ok (.goto 197, 3) := by decide +kernel
theorem dX11_next0_114 : decode cX11_next0 114 = .ok (.iload_n 1, 1) := by decide +kernel
theorem dX11_next0_115 : decode cX11_next0 115 = .ok (.invokestatic 305, 3) := by decide +kernel
theorem dX11_next0_118 : decode cX11_next0 118 = .ok (.ifCond .eq 98, 3) := by decide +kernel
theorem dX11_next0_121 : decode cX11_next0 121 = .ok (.aload_n 0, 1) := by decide +kernel
theorem dX11_next0_122 : decode cX11_next0 122 = .ok (.iconst 0, 1) := by decide +kernel
theorem dX11_next0_123 : decode cX11_next0 123 = .ok (.putfield 308, 3) := by decide +kernel
theorem dX11_next0_126 : decode cX11_next0 126 = .ok (.aload_n 0, 1) := by decide +kernel
theorem dX11_next0_127 : decode cX11_next0 127 = .ok (.aload_n 0, 1) := by decide +kernel
theorem dX11_next0_128 : decode cX11_next0 128 = .ok (.getfield 218, 3) := by decide +kernel
theorem dX11_next0_131 : decode cX11_next0 131 = .ok (.invokevirtual 292, 3) := by decide +kernel
theorem dX11_next0_134 : decode cX11_next0 134 = .ok (.invokestatic 305, 3) := by decide +kernel
theorem dX11_next0_137 : decode cX11_next0 137 = .ok (.ifCond .eq 53, 3) := by decide +kernel
theorem dX11_next0_140 : decode cX11_next0 140 = .ok (.aload_n 0, 1) := by decide +kernel
theorem dX11_next0_141 : decode cX11_next0 141 = .ok (.getfield 218, 3) := by decide +kernel
theorem dX11_next0_144 : decode cX11_next0 144 = .ok (.aload_n 0, 1) := by decide +kernel
theorem dX11_next0_145 : decode cX11_next0 145 = .ok (.getfield 221, 3) := by decide +kernel
theorem dX11_next0_148 : decode cX11_next0 148 = .ok (.bipush 6, 2) := by decide +kernel
theorem dX11_next0_150 : decode cX11_next0 150 = .ok (.iadd, 1) := by decide +kernel
theorem dX11_next0_151 : decode cX11_next0 151 = .ok (.if_icmp .ge 26, 3) := by decide +kernel
theorem dX11_next0_154 : decode cX11_next0 154 = .ok (.aload_n 0, 1) := by decide +kernel
theorem dX11_next0_155 : decode cX11_next0 155 = .ok (.bipush 10, 2) := by decide +kernel
theorem dX11_next0_157 : decode cX11_next0 157 = .ok (.aload_n 0, 1) := by decide +kernel
theorem dX11_next0_158 : decode cX11_next0 158 = .ok (.getfield 308, 3) := by decide +kernel
theorem dX11_next0_161 : decode cX11_next0 161 = .ok (.imul, 1) := by decide +kernel
theorem dX11_next0_162 : decode cX11_next0 162 = .ok (.aload_n 0, 1) := by decide +kernel
theorem dX11_next0_163 : decode cX11_next0 163 = .ok (.aload_n 0, 1) := by decide +kernel
theorem dX11_next0_164 : decode cX11_next0 164 = .ok (.getfield 218, 3) := by decide +kernel
theorem dX11_next0_167 : decode cX11_next0 167 = .ok (.invokevirtual 292, 3) := by decide +kernel
theorem dX11_next0_170 : decode cX11_next0 170 = .ok (.iadd, 1) := by decide +kernel
theorem dX11_next0_171 : decode cX11_next0 171 = .ok (.bipush 48, 2) := by decide +kernel
theorem dX11_next0_173 : decode cX11_next0 173 = .ok (.isub, 1) := by decide +kernel
theorem dX11_next0_174 : decode cX11_next0 174 = .ok (.putfield 308, 3) := by decide +kernel
theorem dX11_next0_177 : decode cX11_next0 177 = .ok (.aload_n 0, 1) := by decide +kernel
theorem dX11_next0_178 : decode cX11_next0 178 = .ok (.dup, 1) := by decide +kernel
theorem dX11_next0_179 : decode cX11_next0 179 = .ok (.getfield 218, 3) := by decide +kernel
theorem dX11_next0_182 : decode cX11_next0 182 = .ok (.iconst 1, 1) := by decide +kernel
theorem dX11_next0_183 : decode cX11_next0 183 = .ok (.iadd, 1) := by decide +kernel
theorem dX11_next0_184 : decode cX11_next0 184 = .ok (.putfield 218, 3) := by decide +kernel
theorem dX11_next0_187 : decode cX11_next0 187 = .ok (.goto (-61), 3) := by decide +kernel
theorem dX11_next0_190 : decode cX11_next0 190 = .ok (.aload_n 0, 1) := by decide +kernel
theorem dX11_next0_191 : decode cX11_next0 191 = .ok (.aload_n 0, 1) := by decide +kernel
theorem dX11_next0_192 : decode cX11_next0 192 = .ok (.getfield 218, 3) := by decide +kernel
theorem dX11_next0_195 : decode cX11_next0 195 = .ok (.aload_n 0, 1) := by decide +kernel
theorem dX11_next0_196 : decode cX11_next0 196 = .ok (.getfield 221, 3) := by decide +kernel
theorem dX11_next0_199 : decode cX11_next0 199 = .ok (.isub, 1) := by decide +kernel
theorem dX11_next0_200 : decode cX11_next0 200 = .ok (.bipush 7, 2) := by decide +kernel
theorem dX11_next0_202 : decode cX11_next0 202 = .ok (.if_icmp .ge 7, 3) := by decide +kernel
theorem dX11_next0_205 : decode cX11_next0 205 = .ok (.iconst 2, 1) := by decide +kernel
theorem dX11_next0_206 : decode cX11_next0 206 = .ok (.goto 4, 3) := by decide +kernel
theorem dX11_next0_209 : decode cX11_next0 209 = .ok (.iconst 1, 1) := by decide +kernel
theorem dX11_next0_210 : decode cX11_next0 210 = .ok (.putfield 296, 3) := by decide +kernel
theorem dX11_next0_213 : decode cX11_next0 213 = .ok (.goto 95, 3) := by decide +kernel
theorem dX11_next0_216 : decode cX11_next0 216 = .ok (.aload_n 0, 1) := by decide +kernel
theorem dX11_next0_217 : decode cX11_next0 217 = .ok (.dup, 1) := by decide +kernel
theorem dX11_next0_218 : decode cX11_next0 218 = .ok (.getfield 218, 3) := by decide +kernel
theorem dX11_next0_221 : decode cX11_next0 221 = .ok (.iconst 1, 1) := by decide +kernel
theorem dX11_next0_222 : decode cX11_next0 222 = .ok (.iadd, 1) := by decide +kernel
theorem dX11_next0_223 : decode cX11_next0 223 = .ok (.putfield 218, 3) := by decide +kernel
theorem dX11_next0_226 : decode cX11_next0 226 = .ok (.iload_n 1, 1) := by decide +kernel
theorem dX11_next0_227 : decode cX11_next0 227 = .ok (.bipush 59, 2) := by decide +kernel
theorem dX11_next0_229 : decode cX11_next0 229 = .ok (.if_icmp .eq 57, 3) := by decide +kernel
theorem dX11_next0_232 : decode cX11_next0 232 = .ok (.iload_n 1, 1) := by decide +kernel
theorem dX11_next0_233 : decode cX11_next0 233 = .ok (.bipush 43, 2) := by decide +kernel
theorem dX11_next0_235 : decode cX11_next0 235 = .ok (.if_icmp .eq 51, 3) := by decide +kernel
theorem dX11_next0_238 : decode cX11_next0 238 = .ok (.iload_n 1, 1) := by decide +kernel
theorem dX11_next0_239 : decode cX11_next0 239 = .ok (.bipush 45, 2) := by decide +kernel
theorem dX11_next0_241 : decode cX11_next0 241 = .ok (.if_icmp .eq 45, 3) := by decide +kernel
theorem dX11_next0_244 : decode cX11_next0 244 = .ok (.iload_n 1, 1) := by decide +kernel
theorem dX11_next0_245 : decode cX11_next0 245 = .ok (.bipush 42, 2) := by decide +kernel
theorem dX11_next0_247 : decode cX11_next0 247 = .ok (.if_icmp .eq 39, 3) := by decide +kernel
theorem dX11_next0_250 : decode cX11_next0 250 = .ok (.iload_n 1, 1) := by decide +kernel
theorem dX11_next0_251 : decode cX11_next0 251 = .ok (.bipush 47, 2) := by decide +kernel
theorem dX11_next0_253 : decode cX11_next0 253 = .ok (.if_icmp .eq 33, 3) := by decide +kernel
theorem dX11_next0_256 : decode cX11_next0 256 = .ok (.iload_n 1, 1) := by decide +kernel
theorem dX11_next0_257 : decode cX11_next0 257 = .ok (.bipush 40, 2) := by decide +kernel
theorem dX11_next0_259 : decode cX11_next0 259 = .ok (.if_icmp .eq 27, 3) := by decide +kernel
theorem dX11_next0_262 : decode cX11_next0 262 = .ok (.iload_n 1, 1) := by decide +kernel
theorem dX11_next0_263 : decode cX11_next0 263 = .ok (.bipush 41, 2) := by decide +kernel
theorem dX11_next0_265 : decode cX11_next0 265 = .ok (.if_icmp .eq 21, 3) := by decide +kernel
theorem dX11_next0_268 : decode cX11_next0 268 = .ok (.iload_n 1, 1) := by decide +kernel
theorem dX11_next0_269 : decode cX11_next0 269 = .ok (.bipush 60, 2) := by decide +kernel
theorem dX11_next0_271 : decode cX11_next0 271 = .ok (.if_icmp .eq 15, 3) := by decide +kernel
theorem dX11_next0_274 : decode cX11_next0 274 = .ok (.iload_n 1, 1) := by decide +kernel
theorem dX11_next0_275 : decode cX11_next0 275 = .ok (.bipush 61, 2) := by decide +kernel
theorem dX11_next0_277 : decode cX11_next0 277 = .ok (.if_icmp .eq 9, 3) := by decide +kernel
theorem dX11_next0_280 : decode cX11_next0 280 = .ok (.iload_n 1, 1) := by decide +kernel
theorem dX11_next0_281 : decode cX11_next0 281 = .ok (.bipush 62, 2) := by decide +kernel
theorem dX11_next0_283 : decode cX11_next0 283 = .ok (.if_icmp .ne 7, 3) := by decide +kernel
theorem dX11_next0_286 : decode cX11_next0 286 = .ok (.iconst 1, 1) := by decide +kernel
theorem dX11_next0_287 : decode cX11_next0 287 = .ok (.goto 4, 3) := by decide +kernel
theorem dX11_next0_290 : decode cX11_next0 290 = .ok (.iconst 0, 1) := by decide +kernel
theorem dX11_next0_291 : decode cX11_next0 291 = .ok (.istore_n 2, 1) := by decide +kernel
theorem dX11_next0_292 : decode cX11_next0 292 = .ok (.aload_n 0, 1) := by decide +kernel
theorem dX11_next0_293 : decode cX11_next0 293 = .ok (.iload_n 2, 1) := by decide +kernel
theorem dX11_next0_294 : decode cX11_next0 294 = .ok (.ifCond .eq 10, 3) := by decide +kernel
theorem dX11_next0_297 : decode cX11_next0 297 = .ok (.bipush 100, 2) := by decide +kernel
theorem dX11_next0_299 : decode cX11_next0 299 = .ok (.iload_n 1, 1) := by decide +kernel
theorem dX11_next0_300 : decode cX11_next0 300 = .ok (.iadd, 1) := by decide +kernel
theorem dX11_next0_301 : decode cX11_next0 301 = .ok (.goto 4, 3) := by decide +kernel
theorem dX11_next0_304 : decode cX11_next0 304 = .ok (.iconst 1, 1) := by decide +kernel
theorem dX11_next0_305 : decode cX11_next0 305 = .ok (.putfield 296, 3) := by decide +kernel
theorem dX11_next0_308 : decode cX11_next0 308 = .ok (.return_, 1) := by decide +kernel
theorem dX11_bad_0 : decode cX11_bad 0 = .ok (.aload_n 0, 1) := by decide +kernel
theorem dX11_bad_1 : decode cX11_bad 1 = .ok (.iload_n 1, 1) := by decide +kernel
theorem dX11_bad_2 : decode cX11_bad 2 = .ok (.putfield 311, 3) := by decide +kernel
theorem dX11_bad_5 : decode cX11_bad 5 = .ok (.aload_n 0, 1) := by decide +kernel
theorem dX11_bad_6 : decode cX11_bad 6 = .ok (.aload_n 0, 1) := by decide +kernel
theorem dX11_bad_7 : decode cX11_bad 7 = .ok (.getfield 221, 3) := by decide +kernel
theorem dX11_bad_10 : decode cX11_bad 10 = .ok (.putfield 314, 3) := by decide +kernel
theorem dX11_bad_13 : decode cX11_bad 13 = .ok (.iconst 0, 1) := by decide +kernel
theorem dX11_bad_14 : decode cX11_bad 14 = .ok (.ireturn, 1) := by decide +kernel
theorem dX11_need_0 : decode cX11_need 0 = .ok (.aload_n 0, 1) := by decide +kernel
theorem dX11_need_1 : decode cX11_need 1 = .ok (.getfield 296, 3) := by decide +kernel
theorem dX11_need_4 : decode cX11_need 4 = .ok (.iload_n 1, 1) := by decide +kernel
theorem dX11_need_5 : decode cX11_need 5 = .ok (.if_icmp .eq 9, 3) := by decide +kernel
theorem dX11_need_8 : decode cX11_need 8 = .ok (.aload_n 0, 1) := by decide +kernel
theorem dX11_need_9 : decode cX11_need 9 = .ok (.iconst 1, 1) := by decide +kernel
theorem dX11_need_10 : decode cX11_need 10 = .ok (.invokevirtual 317, 3) := by decide +kernel
theorem dX11_need_13 : decode cX11_need 13 = .ok (.ireturn, 1) := by decide +kernel
theorem dX11_need_14 : decode cX11_need 14 = .ok (.aload_n 0, 1) := by decide +kernel
theorem dX11_need_15 : decode cX11_need 15 = .ok (.invokevirtual 320, 3) := by decide +kernel
theorem dX11_need_18 : decode cX11_need 18 = .ok (.iconst 1, 1) := by decide +kernel
theorem dX11_need_19 : decode cX11_need 19 = .ok (.ireturn, 1) := by decide +kernel
theorem dX11_number_0 : decode cX11_number 0 = .ok (.aload_n 0, 1) := by decide +kernel
theorem dX11_number_1 : decode cX11_number 1 = .ok (.getfield 296, 3) := by decide +kernel
theorem dX11_number_4 : decode cX11_number 4 = .ok (.iconst 2, 1) := by decide +kernel
theorem dX11_number_5 : decode cX11_number 5 = .ok (.if_icmp .eq 9, 3) := by decide +kernel
theorem dX11_number_8 : decode cX11_number 8 = .ok (.aload_n 0, 1) := by decide +kernel
theorem dX11_number_9 : decode cX11_number 9 = .ok (.iconst 1, 1) := by decide +kernel
theorem dX11_number_10 : decode cX11_number 10 = .ok (.invokevirtual 317, 3) := by decide +kernel
theorem dX11_number_13 : decode cX11_number 13 = .ok (.ireturn, 1) := by decide +kernel
theorem dX11_number_14 : decode cX11_number 14 = .ok (.aload_n 0, 1) := by decide +kernel
theorem dX11_number_15 : decode cX11_number 15 = .ok (.getfield 308, 3) := by decide +kernel
theorem dX11_number_18 : decode cX11_number 18 = .ok (.iload_n 1, 1) := by decide +kernel
theorem dX11_number_19 : decode cX11_number 19 = .ok (.iload_n 2, 1) := by decide +kernel
theorem dX11_number_20 : decode cX11_number 20 = .ok (.invokestatic 1, 3) := by decide +kernel
theorem dX11_number_23 : decode cX11_number 23 = .ok (.ifCond .ne 9, 3) := by decide +kernel
theorem dX11_number_26 : decode cX11_number 26 = .ok (.aload_n 0, 1) := by decide +kernel
theorem dX11_number_27 : decode cX11_number 27 = .ok (.iconst 2, 1) := by decide +kernel
theorem dX11_number_28 : decode cX11_number 28 = .ok (.invokevirtual 317, 3) := by decide +kernel
theorem dX11_number_31 : decode cX11_number 31 = .ok (.ireturn, 1) := by decide +kernel
theorem dX11_number_32 : decode cX11_number 32 = .ok (.aload_n 0, 1) := by decide +kernel
theorem dX11_number_33 : decode cX11_number 33 = .ok (.invokevirtual 320, 3) := by decide +kernel
theorem dX11_number_36 : decode cX11_number 36 = .ok (.iconst 1, 1) := by decide +kernel
theorem dX11_number_37 : decode cX11_number 37 = .ok (.ireturn, 1) := by decide +kernel
theorem dX11_lay_0 : decode cX11_lay 0 = .ok (.aload_n 0, 1) := by decide +kernel
theorem dX11_lay_1 : decode cX11_lay 1 = .ok (.getfield 59, 3) := by decide +kernel
theorem dX11_lay_4 : decode cX11_lay 4 = .ok (.sipush 7320, 3) := by decide +kernel
theorem dX11_lay_7 : decode cX11_lay 7 = .ok (.iconst 2, 1) := by decide +kernel
theorem dX11_lay_8 : decode cX11_lay 8 = .ok (.aload_n 0, 1) := by decide +kernel
theorem dX11_lay_9 : decode cX11_lay 9 = .ok (.getfield 323, 3) := by decide +kernel
theorem dX11_lay_12 : decode cX11_lay 12 = .ok (.imul, 1) := by decide +kernel
theorem dX11_lay_13 : decode cX11_lay 13 = .ok (.iadd, 1) := by decide +kernel
theorem dX11_lay_14 : decode cX11_lay 14 = .ok (.iload_n 1, 1) := by decide +kernel
theorem dX11_lay_15 : decode cX11_lay 15 = .ok (.iastore, 1) := by decide +kernel
theorem dX11_lay_16 : decode cX11_lay 16 = .ok (.aload_n 0, 1) := by decide +kernel
theorem dX11_lay_17 : decode cX11_lay 17 = .ok (.getfield 59, 3) := by decide +kernel
theorem dX11_lay_20 : decode cX11_lay 20 = .ok (.sipush 7320, 3) := by decide +kernel
theorem dX11_lay_23 : decode cX11_lay 23 = .ok (.iconst 2, 1) := by decide +kernel
theorem dX11_lay_24 : decode cX11_lay 24 = .ok (.aload_n 0, 1) := by decide +kernel
theorem dX11_lay_25 : decode cX11_lay 25 = .ok (.getfield 323, 3) := by decide +kernel
theorem dX11_lay_28 : decode cX11_lay 28 = .ok (.imul, 1) := by decide +kernel
theorem dX11_lay_29 : decode cX11_lay 29 = .ok (.iadd, 1) := by decide +kernel
theorem dX11_lay_30 : decode cX11_lay 30 = .ok (.iconst 1, 1) := by decide +kernel
theorem dX11_lay_31 : decode cX11_lay 31 = .ok (.iadd, 1) := by decide +kernel
theorem dX11_lay_32 : decode cX11_lay 32 = .ok (.iload_n 2, 1) := by decide +kernel
theorem dX11_lay_33 : decode cX11_lay 33 = .ok (.iastore, 1) := by decide +kernel
theorem dX11_lay_34 : decode cX11_lay 34 = .ok (.aload_n 0, 1) := by decide +kernel
theorem dX11_lay_35 : decode cX11_lay 35 = .ok (.dup, 1) := by decide +kernel
theorem dX11_lay_36 : decode cX11_lay 36 = .ok (.getfield 323, 3) := by decide +kernel
theorem dX11_lay_39 : decode cX11_lay 39 = .ok (.iconst 1, 1) := by decide +kernel
theorem dX11_lay_40 : decode cX11_lay 40 = .ok (.iadd, 1) := by decide +kernel
theorem dX11_lay_41 : decode cX11_lay 41 = .ok (.putfield 323, 3) := by decide +kernel
theorem dX11_lay_44 : decode cX11_lay 44 = .ok (.return_, 1) := by decide +kernel
theorem dX11_opens_0 : decode cX11_opens 0 = .ok (.aload_n 0, 1) := by decide +kernel
theorem dX11_opens_1 : decode cX11_opens 1 = .ok (.getfield 326, 3) := by decide +kernel
theorem dX11_opens_4 : decode cX11_opens 4 = .ok (.bipush 8, 2) := by decide +kernel
theorem dX11_opens_6 : decode cX11_opens 6 = .ok (.if_icmp .ne 9, 3) := by decide +kernel
theorem dX11_opens_9 : decode cX11_opens 9 = .ok (.aload_n 0, 1) := by decide +kernel
theorem dX11_opens_10 : decode cX11_opens 10 = .ok (.iconst 3, 1) := by decide +kernel
theorem dX11_opens_11 : decode cX11_opens 11 = .ok (.invokevirtual 317, 3) := by decide +kernel
theorem dX11_opens_14 : decode cX11_opens 14 = .ok (.ireturn, 1) := by decide +kernel
theorem dX11_opens_15 : decode cX11_opens 15 = .ok (.aload_n 0, 1) := by decide +kernel
theorem dX11_opens_16 : decode cX11_opens 16 = .ok (.dup, 1) := by decide +kernel
theorem dX11_opens_17 : decode cX11_opens 17 = .ok (.getfield 326, 3) := by decide +kernel
theorem dX11_opens_20 : decode cX11_opens 20 = .ok (.iconst 1, 1) := by decide +kernel
theorem dX11_opens_21 : decode cX11_opens 21 = .ok (.iadd, 1) := by decide +kernel
theorem dX11_opens_22 : decode cX11_opens 22 = .ok (.putfield 326, 3) := by decide +kernel
theorem dX11_opens_25 : decode cX11_opens 25 = .ok (.aload_n 0, 1) := by decide +kernel
theorem dX11_opens_26 : decode cX11_opens 26 = .ok (.invokevirtual 320, 3) := by decide +kernel
theorem dX11_opens_29 : decode cX11_opens 29 = .ok (.iconst 1, 1) := by decide +kernel
theorem dX11_opens_30 : decode cX11_opens 30 = .ok (.ireturn, 1) := by decide +kernel
theorem dX11_sumUp_0 : decode cX11_sumUp 0 = .ok (.aload_n 0, 1) := by decide +kernel
theorem dX11_sumUp_1 : decode cX11_sumUp 1 = .ok (.invokevirtual 329, 3) := by decide +kernel
theorem dX11_sumUp_4 : decode cX11_sumUp 4 = .ok (.ifCond .ne 5, 3) := by decide +kernel
theorem dX11_sumUp_7 : decode cX11_sumUp 7 = .ok (.iconst 0, 1) := by decide +kernel
theorem dX11_sumUp_8 : decode cX11_sumUp 8 = .ok (.ireturn, 1) := by decide +kernel
theorem dX11_sumUp_9 : decode cX11_sumUp 9 = .ok (.aload_n 0, 1) := by decide +kernel
theorem dX11_sumUp_10 : decode cX11_sumUp 10 = .ok (.getfield 296, 3) := by decide +kernel
theorem dX11_sumUp_13 : decode cX11_sumUp 13 = .ok (.sipush 143, 3) := by decide +kernel
theorem dX11_sumUp_16 : decode cX11_sumUp 16 = .ok (.if_icmp .eq 13, 3) := by decide +kernel
theorem dX11_sumUp_19 : decode cX11_sumUp 19 = .ok (.aload_n 0, 1) := by decide +kernel
theorem dX11_sumUp_20 : decode cX11_sumUp 20 = .ok (.getfield 296, 3) := by decide +kernel
theorem dX11_sumUp_23 : decode cX11_sumUp 23 = .ok (.sipush 145, 3) := by decide +kernel
theorem dX11_sumUp_26 : decode cX11_sumUp 26 = .ok (.if_icmp .ne 43, 3) := by decide +kernel
theorem dX11_sumUp_29 : decode cX11_sumUp 29 = .ok (.aload_n 0, 1) := by decide +kernel
theorem dX11_sumUp_30 : decode cX11_sumUp 30 = .ok (.getfield 296, 3) := by decide +kernel
theorem dX11_sumUp_33 : decode cX11_sumUp 33 = .ok (.sipush 143, 3) := by decide +kernel
theorem dX11_sumUp_36 : decode cX11_sumUp 36 = .ok (.if_icmp .ne 8, 3) := by decide +kernel
theorem dX11_sumUp_39 : decode cX11_sumUp 39 = .ok (.bipush 9, 2) := by decide +kernel
theorem dX11_sumUp_41 : decode cX11_sumUp 41 = .ok (.goto 5, 3) := by decide +kernel
theorem dX11_sumUp_44 : decode cX11_sumUp 44 = .ok (.bipush 10, 2) := by decide +kernel
theorem dX11_sumUp_46 : decode cX11_sumUp 46 = .ok (.istore_n 1, 1) := by decide +kernel
theorem dX11_sumUp_47 : decode cX11_sumUp 47 = .ok (.aload_n 0, 1) := by decide +kernel
theorem dX11_sumUp_48 : decode cX11_sumUp 48 = .ok (.invokevirtual 320, 3) := by decide +kernel
theorem dX11_sumUp_51 : decode cX11_sumUp 51 = .ok (.aload_n 0, 1) := by decide +kernel
theorem dX11_sumUp_52 : decode cX11_sumUp 52 = .ok (.invokevirtual 329, 3) := by decide +kernel
theorem dX11_sumUp_55 : decode cX11_sumUp 55 = .ok (.ifCond .ne 5, 3) := by decide +kernel
theorem dX11_sumUp_58 : decode cX11_sumUp 58 = .ok (.iconst 0, 1) := by decide +kernel
theorem dX11_sumUp_59 : decode cX11_sumUp 59 = .ok (.ireturn, 1) := by decide +kernel
theorem dX11_sumUp_60 : decode cX11_sumUp 60 = .ok (.aload_n 0, 1) := by decide +kernel
theorem dX11_sumUp_61 : decode cX11_sumUp 61 = .ok (.iload_n 1, 1) := by decide +kernel
theorem dX11_sumUp_62 : decode cX11_sumUp 62 = .ok (.iconst 0, 1) := by decide +kernel
theorem dX11_sumUp_63 : decode cX11_sumUp 63 = .ok (.invokevirtual 333, 3) := by decide +kernel
theorem dX11_sumUp_66 : decode cX11_sumUp 66 = .ok (.goto (-57), 3) := by decide +kernel
theorem dX11_sumUp_69 : decode cX11_sumUp 69 = .ok (.iconst 1, 1) := by decide +kernel
theorem dX11_sumUp_70 : decode cX11_sumUp 70 = .ok (.ireturn, 1) := by decide +kernel
theorem dX11_product_0 : decode cX11_product 0 = .ok (.aload_n 0, 1) := by decide +kernel
theorem dX11_product_1 : decode cX11_product 1 = .ok (.invokevirtual 337, 3) := by decide +kernel
theorem dX11_product_4 : decode cX11_product 4 = .ok (.ifCond .ne 5, 3) := by decide +kernel
theorem dX11_product_7 : decode cX11_product 7 = .ok (.iconst 0, 1) := by decide +kernel
theorem dX11_product_8 : decode cX11_product 8 = .ok (.ireturn, 1) := by decide +kernel
theorem dX11_product_9 : decode cX11_product 9 = .ok (.aload_n 0, 1) := by decide +kernel
theorem dX11_product_10 : decode cX11_product 10 = .ok (.getfield 296, 3) := by decide +kernel
theorem dX11_product_13 : decode cX11_product 13 = .ok (.sipush 142, 3) := by decide +kernel
theorem dX11_product_16 : decode cX11_product 16 = .ok (.if_icmp .eq 13, 3) := by decide +kernel
theorem dX11_product_19 : decode cX11_product 19 = .ok (.aload_n 0, 1) := by decide +kernel
theorem dX11_product_20 : decode cX11_product 20 = .ok (.getfield 296, 3) := by decide +kernel
theorem dX11_product_23 : decode cX11_product 23 = .ok (.sipush 147, 3) := by decide +kernel
theorem dX11_product_26 : decode cX11_product 26 = .ok (.if_icmp .ne 73, 3) := by decide +kernel
theorem dX11_product_29 : decode cX11_product 29 = .ok (.aload_n 0, 1) := by decide +kernel
theorem dX11_product_30 : decode cX11_product 30 = .ok (.getfield 296, 3) := by decide +kernel
theorem dX11_product_33 : decode cX11_product 33 = .ok (.sipush 147, 3) := by decide +kernel
theorem dX11_product_36 : decode cX11_product 36 = .ok (.if_icmp .ne 7, 3) := by decide +kernel
theorem dX11_product_39 : decode cX11_product 39 = .ok (.iconst 1, 1) := by decide +kernel
theorem dX11_product_40 : decode cX11_product 40 = .ok (.goto 4, 3) := by decide +kernel
theorem dX11_product_43 : decode cX11_product 43 = .ok (.iconst 0, 1) := by decide +kernel
theorem dX11_product_44 : decode cX11_product 44 = .ok (.istore_n 1, 1) := by decide +kernel
theorem dX11_product_45 : decode cX11_product 45 = .ok (.aload_n 0, 1) := by decide +kernel
theorem dX11_product_46 : decode cX11_product 46 = .ok (.invokevirtual 320, 3) := by decide +kernel
theorem dX11_product_49 : decode cX11_product 49 = .ok (.iload_n 1, 1) := by decide +kernel
theorem dX11_product_50 : decode cX11_product 50 = .ok (.ifCond .eq 30, 3) := by decide +kernel
theorem dX11_product_53 : decode cX11_product 53 = .ok (.aload_n 0, 1) := by decide +kernel
theorem dX11_product_54 : decode cX11_product 54 = .ok (.getfield 308, 3) := by decide +kernel
theorem dX11_product_57 : decode cX11_product 57 = .ok (.istore_n 2, 1) := by decide +kernel
theorem dX11_product_58 : decode cX11_product 58 = .ok (.aload_n 0, 1) := by decide +kernel
theorem dX11_product_59 : decode cX11_product 59 = .ok (.iconst 1, 1) := by decide +kernel
theorem dX11_product_60 : decode cX11_product 60 = .ok (.ldc 214, 2) := by decide +kernel
theorem dX11_product_62 : decode cX11_product 62 = .ok (.invokevirtual 340, 3) := by decide +kernel
theorem dX11_product_65 : decode cX11_product 65 = .ok (.ifCond .ne 5, 3) := by decide +kernel
theorem dX11_product_68 : decode cX11_product 68 = .ok (.iconst 0, 1) := by decide +kernel
theorem dX11_product_69 : decode cX11_product 69 = .ok (.ireturn, 1) := by decide +kernel
theorem dX11_product_70 : decode cX11_product 70 = .ok (.aload_n 0, 1) := by decide +kernel
theorem dX11_product_71 : decode cX11_product 71 = .ok (.bipush 12, 2) := by decide +kernel
theorem dX11_product_73 : decode cX11_product 73 = .ok (.iload_n 2, 1) := by decide +kernel
theorem dX11_product_74 : decode cX11_product 74 = .ok (.invokevirtual 333, 3) := by decide +kernel
theorem dX11_product_77 : decode cX11_product 77 = .ok (.goto 19, 3) := by decide +kernel
theorem dX11_product_80 : decode cX11_product 80 = .ok (.aload_n 0, 1) := by decide +kernel
theorem dX11_product_81 : decode cX11_product 81 = .ok (.invokevirtual 337, 3) := by decide +kernel
theorem dX11_product_84 : decode cX11_product 84 = .ok (.ifCond .ne 5, 3) := by decide +kernel
theorem dX11_product_87 : decode cX11_product 87 = .ok (.iconst 0, 1) := by decide +kernel
theorem dX11_product_88 : decode cX11_product 88 = .ok (.ireturn, 1) := by decide +kernel
theorem dX11_product_89 : decode cX11_product 89 = .ok (.aload_n 0, 1) := by decide +kernel
theorem dX11_product_90 : decode cX11_product 90 = .ok (.bipush 11, 2) := by decide +kernel
theorem dX11_product_92 : decode cX11_product 92 = .ok (.iconst 0, 1) := by decide +kernel
theorem dX11_product_93 : decode cX11_product 93 = .ok (.invokevirtual 333, 3) := by decide +kernel
theorem dX11_product_96 : decode cX11_product 96 = .ok (.goto (-87), 3) := by decide +kernel
theorem dX11_product_99 : decode cX11_product 99 = .ok (.iconst 1, 1) := by decide +kernel
theorem dX11_product_100 : decode cX11_product 100 = .ok (.ireturn, 1) := by decide +kernel
theorem dX11_unit_0 : decode cX11_unit 0 = .ok (.aload_n 0, 1) := by decide +kernel
theorem dX11_unit_1 : decode cX11_unit 1 = .ok (.getfield 296, 3) := by decide +kernel
theorem dX11_unit_4 : decode cX11_unit 4 = .ok (.bipush 61, 2) := by decide +kernel
theorem dX11_unit_6 : decode cX11_unit 6 = .ok (.bipush 68, 2) := by decide +kernel
theorem dX11_unit_8 : decode cX11_unit 8 = .ok (.invokestatic 1, 3) := by decide +kernel
theorem dX11_unit_11 : decode cX11_unit 11 = .ok (.istore_n 1, 1) := by decide +kernel
theorem dX11_unit_12 : decode cX11_unit 12 = .ok (.aload_n 0, 1) := by decide +kernel
theorem dX11_unit_13 : decode cX11_unit 13 = .ok (.getfield 296, 3) := by decide +kernel
theorem dX11_unit_16 : decode cX11_unit 16 = .ok (.iconst 2, 1) := by decide +kernel
theorem dX11_unit_17 : decode cX11_unit 17 = .ok (.if_icmp .eq 13, 3) := by decide +kernel
theorem dX11_unit_20 : decode cX11_unit 20 = .ok (.iload_n 1, 1) := by decide +kernel
theorem dX11_unit_21 : decode cX11_unit 21 = .ok (.ifCond .ne 9, 3) := by decide +kernel
theorem dX11_unit_24 : decode cX11_unit 24 = .ok (.aload_n 0, 1) := by decide +kernel
theorem dX11_unit_25 : decode cX11_unit 25 = .ok (.iconst 1, 1) := by decide +kernel
theorem dX11_unit_26 : decode cX11_unit 26 = .ok (.invokevirtual 317, 3) := by decide +kernel
theorem dX11_unit_29 : decode cX11_unit 29 = .ok (.ireturn, 1) := by decide +kernel
theorem dX11_unit_30 : decode cX11_unit 30 = .ok (.aload_n 0, 1) := by decide +kernel
theorem dX11_unit_31 : decode cX11_unit 31 = .ok (.iload_n 1, 1) := by decide +kernel
theorem dX11_unit_32 : decode cX11_unit 32 = .ok (.ifCond .eq 13, 3) := by decide +kernel
theorem dX11_unit_35 : decode cX11_unit 35 = .ok (.aload_n 0, 1) := by decide +kernel
theorem dX11_unit_36 : decode cX11_unit 36 = .ok (.getfield 296, 3) := by decide +kernel
theorem dX11_unit_39 : decode cX11_unit 39 = .ok (.bipush 60, 2) := by decide +kernel
theorem dX11_unit_41 : decode cX11_unit 41 = .ok (.isub, 1) := by decide +kernel
theorem dX11_unit_42 : decode cX11_unit 42 = .ok (.goto 4, 3) := by decide +kernel
theorem dX11_unit_45 : decode cX11_unit 45 = .ok (.iconst 0, 1) := by decide +kernel
theorem dX11_unit_46 : decode cX11_unit 46 = .ok (.aload_n 0, 1) := by decide +kernel
theorem dX11_unit_47 : decode cX11_unit 47 = .ok (.getfield 308, 3) := by decide +kernel
theorem dX11_unit_50 : decode cX11_unit 50 = .ok (.invokevirtual 333, 3) := by decide +kernel
theorem dX11_unit_53 : decode cX11_unit 53 = .ok (.aload_n 0, 1) := by decide +kernel
theorem dX11_unit_54 : decode cX11_unit 54 = .ok (.invokevirtual 320, 3) := by decide +kernel
theorem dX11_unit_57 : decode cX11_unit 57 = .ok (.iconst 1, 1) := by decide +kernel
theorem dX11_unit_58 : decode cX11_unit 58 = .ok (.ireturn, 1) := by decide +kernel
theorem dX11_any_0 : decode cX11_any 0 = .ok (.aload_n 0, 1) := by decide +kernel
theorem dX11_any_1 : decode cX11_any 1 = .ok (.invokevirtual 344, 3) := by decide +kernel
theorem dX11_any_4 : decode cX11_any 4 = .ok (.ifCond .ne 5, 3) := by decide +kernel
theorem dX11_any_7 : decode cX11_any 7 = .ok (.iconst 0, 1) := by decide +kernel
theorem dX11_any_8 : decode cX11_any 8 = .ok (.ireturn, 1) := by decide +kernel
theorem dX11_any_9 : decode cX11_any 9 = .ok (.aload_n 0, 1) := by decide +kernel
theorem dX11_any_10 : decode cX11_any 10 = .ok (.getfield 296, 3) := by decide +kernel
theorem dX11_any_13 : decode cX11_any 13 = .ok (.iconst 4, 1) := by decide +kernel
theorem dX11_any_14 : decode cX11_any 14 = .ok (.if_icmp .ne 26, 3) := by decide +kernel
theorem dX11_any_17 : decode cX11_any 17 = .ok (.aload_n 0, 1) := by decide +kernel
theorem dX11_any_18 : decode cX11_any 18 = .ok (.invokevirtual 320, 3) := by decide +kernel
theorem dX11_any_21 : decode cX11_any 21 = .ok (.aload_n 0, 1) := by decide +kernel
theorem dX11_any_22 : decode cX11_any 22 = .ok (.invokevirtual 344, 3) := by decide +kernel
theorem dX11_any_25 : decode cX11_any 25 = .ok (.ifCond .ne 5, 3) := by decide +kernel
theorem dX11_any_28 : decode cX11_any 28 = .ok (.iconst 0, 1) := by decide +kernel
theorem dX11_any_29 : decode cX11_any 29 = .ok (.ireturn, 1) := by decide +kernel
theorem dX11_any_30 : decode cX11_any 30 = .ok (.aload_n 0, 1) := by decide +kernel
theorem dX11_any_31 : decode cX11_any 31 = .ok (.bipush 18, 2) := by decide +kernel
theorem dX11_any_33 : decode cX11_any 33 = .ok (.iconst 0, 1) := by decide +kernel
theorem dX11_any_34 : decode cX11_any 34 = .ok (.invokevirtual 333, 3) := by decide +kernel
theorem dX11_any_37 : decode cX11_any 37 = .ok (.goto (-28), 3) := by decide +kernel
theorem dX11_any_40 : decode cX11_any 40 = .ok (.iconst 1, 1) := by decide +kernel
theorem dX11_any_41 : decode cX11_any 41 = .ok (.ireturn, 1) := by decide +kernel
theorem dX11_every_0 : decode cX11_every 0 = .ok (.aload_n 0, 1) := by decide +kernel
theorem dX11_every_1 : decode cX11_every 1 = .ok (.invokevirtual 347, 3) := by decide +kernel
theorem dX11_every_4 : decode cX11_every 4 = .ok (.ifCond .ne 5, 3) := by decide +kernel
theorem dX11_every_7 : decode cX11_every 7 = .ok (.iconst 0, 1) := by decide +kernel
theorem dX11_every_8 : decode cX11_every 8 = .ok (.ireturn, 1) := by decide +kernel
theorem dX11_every_9 : decode cX11_every 9 = .ok (.aload_n 0, 1) := by decide +kernel
theorem dX11_every_10 : decode cX11_every 10 = .ok (.getfield 296, 3) := by decide +kernel
theorem dX11_every_13 : decode cX11_every 13 = .ok (.iconst 5, 1) := by decide +kernel
theorem dX11_every_14 : decode cX11_every 14 = .ok (.if_icmp .ne 26, 3) := by decide +kernel
theorem dX11_every_17 : decode cX11_every 17 = .ok (.aload_n 0, 1) := by decide +kernel
theorem dX11_every_18 : decode cX11_every 18 = .ok (.invokevirtual 320, 3) := by decide +kernel
theorem dX11_every_21 : decode cX11_every 21 = .ok (.aload_n 0, 1) := by decide +kernel
theorem dX11_every_22 : decode cX11_every 22 = .ok (.invokevirtual 347, 3) := by decide +kernel
theorem dX11_every_25 : decode cX11_every 25 = .ok (.ifCond .ne 5, 3) := by decide +kernel
theorem dX11_every_28 : decode cX11_every 28 = .ok (.iconst 0, 1) := by decide +kernel
theorem dX11_every_29 : decode cX11_every 29 = .ok (.ireturn, 1) := by decide +kernel
theorem dX11_every_30 : decode cX11_every 30 = .ok (.aload_n 0, 1) := by decide +kernel
theorem dX11_every_31 : decode cX11_every 31 = .ok (.bipush 17, 2) := by decide +kernel
theorem dX11_every_33 : decode cX11_every 33 = .ok (.iconst 0, 1) := by decide +kernel
theorem dX11_every_34 : decode cX11_every 34 = .ok (.invokevirtual 333, 3) := by decide +kernel
theorem dX11_every_37 : decode cX11_every 37 = .ok (.goto (-28), 3) := by decide +kernel
theorem dX11_every_40 : decode cX11_every 40 = .ok (.iconst 1, 1) := by decide +kernel
theorem dX11_every_41 : decode cX11_every 41 = .ok (.ireturn, 1) := by decide +kernel
theorem dX11_one_0 : decode cX11_one 0 = .ok (.aload_n 0, 1) := by decide +kernel
theorem dX11_one_1 : decode cX11_one 1 = .ok (.getfield 296, 3) := by decide +kernel
theorem dX11_one_4 : decode cX11_one 4 = .ok (.bipush 6, 2) := by decide +kernel
theorem dX11_one_6 : decode cX11_one 6 = .ok (.if_icmp .ne 38, 3) := by decide +kernel
theorem dX11_one_9 : decode cX11_one 9 = .ok (.aload_n 0, 1) := by decide +kernel
theorem dX11_one_10 : decode cX11_one 10 = .ok (.invokevirtual 350, 3) := by decide +kernel
theorem dX11_one_13 : decode cX11_one 13 = .ok (.ifCond .eq 10, 3) := by decide +kernel
theorem dX11_one_16 : decode cX11_one 16 = .ok (.aload_n 0, 1) := by decide +kernel
theorem dX11_one_17 : decode cX11_one 17 = .ok (.invokevirtual 347, 3) := by decide +kernel
theorem dX11_one_20 : decode cX11_one 20 = .ok (.ifCond .ne 5, 3) := by decide +kernel
theorem dX11_one_23 : decode cX11_one 23 = .ok (.iconst 0, 1) := by decide +kernel
theorem dX11_one_24 : decode cX11_one 24 = .ok (.ireturn, 1) := by decide +kernel
theorem dX11_one_25 : decode cX11_one 25 = .ok (.aload_n 0, 1) := by decide +kernel
theorem dX11_one_26 : decode cX11_one 26 = .ok (.dup, 1) := by decide +kernel
theorem dX11_one_27 : decode cX11_one 27 = .ok (.getfield 326, 3) := by decide +kernel
theorem dX11_one_30 : decode cX11_one 30 = .ok (.iconst 1, 1) := by decide +kernel
theorem dX11_one_31 : decode cX11_one 31 = .ok (.isub, 1) := by decide +kernel
theorem dX11_one_32 : decode cX11_one 32 = .ok (.putfield 326, 3) := by decide +kernel
theorem dX11_one_35 : decode cX11_one 35 = .ok (.aload_n 0, 1) := by decide +kernel
theorem dX11_one_36 : decode cX11_one 36 = .ok (.bipush 16, 2) := by decide +kernel
theorem dX11_one_38 : decode cX11_one 38 = .ok (.iconst 0, 1) := by decide +kernel
theorem dX11_one_39 : decode cX11_one 39 = .ok (.invokevirtual 333, 3) := by decide +kernel
theorem dX11_one_42 : decode cX11_one 42 = .ok (.iconst 1, 1) := by decide +kernel
theorem dX11_one_43 : decode cX11_one 43 = .ok (.ireturn, 1) := by decide +kernel
theorem dX11_one_44 : decode cX11_one 44 = .ok (.aload_n 0, 1) := by decide +kernel
theorem dX11_one_45 : decode cX11_one 45 = .ok (.getfield 296, 3) := by decide +kernel
theorem dX11_one_48 : decode cX11_one 48 = .ok (.sipush 140, 3) := by decide +kernel
theorem dX11_one_51 : decode cX11_one 51 = .ok (.if_icmp .ne 41, 3) := by decide +kernel
theorem dX11_one_54 : decode cX11_one 54 = .ok (.aload_n 0, 1) := by decide +kernel
theorem dX11_one_55 : decode cX11_one 55 = .ok (.invokevirtual 350, 3) := by decide +kernel
theorem dX11_one_58 : decode cX11_one 58 = .ok (.ifCond .eq 20, 3) := by decide +kernel
theorem dX11_one_61 : decode cX11_one 61 = .ok (.aload_n 0, 1) := by decide +kernel
theorem dX11_one_62 : decode cX11_one 62 = .ok (.invokevirtual 353, 3) := by decide +kernel
theorem dX11_one_65 : decode cX11_one 65 = .ok (.ifCond .eq 13, 3) := by decide +kernel
theorem dX11_one_68 : decode cX11_one 68 = .ok (.aload_n 0, 1) := by decide +kernel
theorem dX11_one_69 : decode cX11_one 69 = .ok (.sipush 141, 3) := by decide +kernel
theorem dX11_one_72 : decode cX11_one 72 = .ok (.invokevirtual 356, 3) := by decide +kernel
theorem dX11_one_75 : decode cX11_one 75 = .ok (.ifCond .ne 5, 3) := by decide +kernel
theorem dX11_one_78 : decode cX11_one 78 = .ok (.iconst 0, 1) := by decide +kernel
theorem dX11_one_79 : decode cX11_one 79 = .ok (.ireturn, 1) := by decide +kernel
theorem dX11_one_80 : decode cX11_one 80 = .ok (.aload_n 0, 1) := by decide +kernel
theorem dX11_one_81 : decode cX11_one 81 = .ok (.dup, 1) := by decide +kernel
theorem dX11_one_82 : decode cX11_one 82 = .ok (.getfield 326, 3) := by decide +kernel
theorem dX11_one_85 : decode cX11_one 85 = .ok (.iconst 1, 1) := by decide +kernel
theorem dX11_one_86 : decode cX11_one 86 = .ok (.isub, 1) := by decide +kernel
theorem dX11_one_87 : decode cX11_one 87 = .ok (.putfield 326, 3) := by decide +kernel
theorem dX11_one_90 : decode cX11_one 90 = .ok (.iconst 1, 1) := by decide +kernel
theorem dX11_one_91 : decode cX11_one 91 = .ok (.ireturn, 1) := by decide +kernel
theorem dX11_one_92 : decode cX11_one 92 = .ok (.aload_n 0, 1) := by decide +kernel
theorem dX11_one_93 : decode cX11_one 93 = .ok (.invokevirtual 359, 3) := by decide +kernel
theorem dX11_one_96 : decode cX11_one 96 = .ok (.ifCond .ne 5, 3) := by decide +kernel
theorem dX11_one_99 : decode cX11_one 99 = .ok (.iconst 0, 1) := by decide +kernel
theorem dX11_one_100 : decode cX11_one 100 = .ok (.ireturn, 1) := by decide +kernel
theorem dX11_one_101 : decode cX11_one 101 = .ok (.aload_n 0, 1) := by decide +kernel
theorem dX11_one_102 : decode cX11_one 102 = .ok (.getfield 296, 3) := by decide +kernel
theorem dX11_one_105 : decode cX11_one 105 = .ok (.sipush 160, 3) := by decide +kernel
theorem dX11_one_108 : decode cX11_one 108 = .ok (.if_icmp .ne 8, 3) := by decide +kernel
theorem dX11_one_111 : decode cX11_one 111 = .ok (.bipush 13, 2) := by decide +kernel
theorem dX11_one_113 : decode cX11_one 113 = .ok (.goto 34, 3) := by decide +kernel
theorem dX11_one_116 : decode cX11_one 116 = .ok (.aload_n 0, 1) := by decide +kernel
theorem dX11_one_117 : decode cX11_one 117 = .ok (.getfield 296, 3) := by decide +kernel
theorem dX11_one_120 : decode cX11_one 120 = .ok (.sipush 161, 3) := by decide +kernel
theorem dX11_one_123 : decode cX11_one 123 = .ok (.if_icmp .ne 8, 3) := by decide +kernel
theorem dX11_one_126 : decode cX11_one 126 = .ok (.bipush 14, 2) := by decide +kernel
theorem dX11_one_128 : decode cX11_one 128 = .ok (.goto 19, 3) := by decide +kernel
theorem dX11_one_131 : decode cX11_one 131 = .ok (.aload_n 0, 1) := by decide +kernel
theorem dX11_one_132 : decode cX11_one 132 = .ok (.getfield 296, 3) := by decide +kernel
theorem dX11_one_135 : decode cX11_one 135 = .ok (.sipush 162, 3) := by decide +kernel
theorem dX11_one_138 : decode cX11_one 138 = .ok (.if_icmp .ne 8, 3) := by decide +kernel
theorem dX11_one_141 : decode cX11_one 141 = .ok (.bipush 15, 2) := by decide +kernel
theorem dX11_one_143 : decode cX11_one 143 = .ok (.goto 4, 3) := by decide +kernel
theorem dX11_one_146 : decode cX11_one 146 = .ok (.iconst (-1), 1) := by decide +kernel
theorem dX11_one_147 : decode cX11_one 147 = .ok (.istore_n 1, 1) := by decide +kernel
theorem dX11_one_148 : decode cX11_one 148 = .ok (.iload_n 1, 1) := by decide +kernel
theorem dX11_one_149 : decode cX11_one 149 = .ok (.iconst (-1), 1) := by decide +kernel
theorem dX11_one_150 : decode cX11_one 150 = .ok (.if_icmp .ne 9, 3) := by decide +kernel
theorem dX11_one_153 : decode cX11_one 153 = .ok (.aload_n 0, 1) := by decide +kernel
theorem dX11_one_154 : decode cX11_one 154 = .ok (.iconst 1, 1) := by decide +kernel
theorem dX11_one_155 : decode cX11_one 155 = .ok (.invokevirtual 317, 3) := by decide +kernel
theorem dX11_one_158 : decode cX11_one 158 = .ok (.ireturn, 1) := by decide +kernel
theorem dX11_one_159 : decode cX11_one 159 = .ok (.aload_n 0, 1) := by decide +kernel
theorem dX11_one_160 : decode cX11_one 160 = .ok (.invokevirtual 320, 3) := by decide +kernel
theorem dX11_one_163 : decode cX11_one 163 = .ok (.aload_n 0, 1) := by decide +kernel
theorem dX11_one_164 : decode cX11_one 164 = .ok (.invokevirtual 359, 3) := by decide +kernel
theorem dX11_one_167 : decode cX11_one 167 = .ok (.ifCond .ne 5, 3) := by decide +kernel
theorem dX11_one_170 : decode cX11_one 170 = .ok (.iconst 0, 1) := by decide +kernel
theorem dX11_one_171 : decode cX11_one 171 = .ok (.ireturn, 1) := by decide +kernel
theorem dX11_one_172 : decode cX11_one 172 = .ok (.aload_n 0, 1) := by decide +kernel
theorem dX11_one_173 : decode cX11_one 173 = .ok (.iload_n 1, 1) := by decide +kernel
theorem dX11_one_174 : decode cX11_one 174 = .ok (.iconst 0, 1) := by decide +kernel
theorem dX11_one_175 : decode cX11_one 175 = .ok (.invokevirtual 333, 3) := by decide +kernel
theorem dX11_one_178 : decode cX11_one 178 = .ok (.iconst 1, 1) := by decide +kernel
theorem dX11_one_179 : decode cX11_one 179 = .ok (.ireturn, 1) := by decide +kernel
theorem dX11_aKind_0 : decode cX11_aKind 0 = .ok (.aload_n 0, 1) := by decide +kernel
theorem dX11_aKind_1 : decode cX11_aKind 1 = .ok (.getfield 296, 3) := by decide +kernel
theorem dX11_aKind_4 : decode cX11_aKind 4 = .ok (.bipush 40, 2) := by decide +kernel
theorem dX11_aKind_6 : decode cX11_aKind 6 = .ok (.bipush 45, 2) := by decide +kernel
theorem dX11_aKind_8 : decode cX11_aKind 8 = .ok (.invokestatic 1, 3) := by decide +kernel
theorem dX11_aKind_11 : decode cX11_aKind 11 = .ok (.ifCond .ne 9, 3) := by decide +kernel
theorem dX11_aKind_14 : decode cX11_aKind 14 = .ok (.aload_n 0, 1) := by decide +kernel
theorem dX11_aKind_15 : decode cX11_aKind 15 = .ok (.iconst 1, 1) := by decide +kernel
theorem dX11_aKind_16 : decode cX11_aKind 16 = .ok (.invokevirtual 317, 3) := by decide +kernel
theorem dX11_aKind_19 : decode cX11_aKind 19 = .ok (.ireturn, 1) := by decide +kernel
theorem dX11_aKind_20 : decode cX11_aKind 20 = .ok (.aload_n 0, 1) := by decide +kernel
theorem dX11_aKind_21 : decode cX11_aKind 21 = .ok (.invokevirtual 320, 3) := by decide +kernel
theorem dX11_aKind_24 : decode cX11_aKind 24 = .ok (.iconst 1, 1) := by decide +kernel
theorem dX11_aKind_25 : decode cX11_aKind 25 = .ok (.ireturn, 1) := by decide +kernel
theorem dX11_aRule_0 : decode cX11_aRule 0 = .ok (.bipush 120, 2) := by decide +kernel
theorem dX11_aRule_2 : decode cX11_aRule 2 = .ok (.aload_n 0, 1) := by decide +kernel
theorem dX11_aRule_3 : decode cX11_aRule 3 = .ok (.getfield 362, 3) := by decide +kernel
theorem dX11_aRule_6 : decode cX11_aRule 6 = .ok (.iadd, 1) := by decide +kernel
theorem dX11_aRule_7 : decode cX11_aRule 7 = .ok (.istore_n 2, 1) := by decide +kernel
theorem dX11_aRule_8 : decode cX11_aRule 8 = .ok (.aload_n 0, 1) := by decide +kernel
theorem dX11_aRule_9 : decode cX11_aRule 9 = .ok (.getfield 44, 3) := by decide +kernel
theorem dX11_aRule_12 : decode cX11_aRule 12 = .ok (.iload_n 2, 1) := by decide +kernel
theorem dX11_aRule_13 : decode cX11_aRule 13 = .ok (.iload_n 1, 1) := by decide +kernel
theorem dX11_aRule_14 : decode cX11_aRule 14 = .ok (.iastore, 1) := by decide +kernel
theorem dX11_aRule_15 : decode cX11_aRule 15 = .ok (.aload_n 0, 1) := by decide +kernel
theorem dX11_aRule_16 : decode cX11_aRule 16 = .ok (.getfield 47, 3) := by decide +kernel
theorem dX11_aRule_19 : decode cX11_aRule 19 = .ok (.iload_n 2, 1) := by decide +kernel
theorem dX11_aRule_20 : decode cX11_aRule 20 = .ok (.aload_n 0, 1) := by decide +kernel
theorem dX11_aRule_21 : decode cX11_aRule 21 = .ok (.getfield 296, 3) := by decide +kernel
theorem dX11_aRule_24 : decode cX11_aRule 24 = .ok (.bipush 40, 2) := by decide +kernel
theorem dX11_aRule_26 : decode cX11_aRule 26 = .ok (.isub, 1) := by decide +kernel
theorem dX11_aRule_27 : decode cX11_aRule 27 = .ok (.iastore, 1) := by decide +kernel
theorem dX11_aRule_28 : decode cX11_aRule 28 = .ok (.iload_n 1, 1) := by decide +kernel
theorem dX11_aRule_29 : decode cX11_aRule 29 = .ok (.iconst 1, 1) := by decide +kernel
theorem dX11_aRule_30 : decode cX11_aRule 30 = .ok (.if_icmp .ne 12, 3) := by decide +kernel
theorem dX11_aRule_33 : decode cX11_aRule 33 = .ok (.aload_n 0, 1) := by decide +kernel
theorem dX11_aRule_34 : decode cX11_aRule 34 = .ok (.invokevirtual 365, 3) := by decide +kernel
theorem dX11_aRule_37 : decode cX11_aRule 37 = .ok (.ifCond .ne 5, 3) := by decide +kernel
theorem dX11_aRule_40 : decode cX11_aRule 40 = .ok (.iconst 0, 1) := by decide +kernel
theorem dX11_aRule_41 : decode cX11_aRule 41 = .ok (.ireturn, 1) := by decide +kernel
theorem dX11_aRule_42 : decode cX11_aRule 42 = .ok (.aload_n 0, 1) := by decide +kernel
theorem dX11_aRule_43 : decode cX11_aRule 43 = .ok (.getfield 50, 3) := by decide +kernel
theorem dX11_aRule_46 : decode cX11_aRule 46 = .ok (.iload_n 2, 1) := by decide +kernel
theorem dX11_aRule_47 : decode cX11_aRule 47 = .ok (.aload_n 0, 1) := by decide +kernel
theorem dX11_aRule_48 : decode cX11_aRule 48 = .ok (.getfield 323, 3) := by decide +kernel
theorem dX11_aRule_51 : decode cX11_aRule 51 = .ok (.iastore, 1) := by decide +kernel
theorem dX11_aRule_52 : decode cX11_aRule 52 = .ok (.iload_n 1, 1) := by decide +kernel
theorem dX11_aRule_53 : decode cX11_aRule 53 = .ok (.iconst 1, 1) := by decide +kernel
theorem dX11_aRule_54 : decode cX11_aRule 54 = .ok (.if_icmp .ne 12, 3) := by decide +kernel
theorem dX11_aRule_57 : decode cX11_aRule 57 = .ok (.aload_n 0, 1) := by decide +kernel
theorem dX11_aRule_58 : decode cX11_aRule 58 = .ok (.invokevirtual 359, 3) := by decide +kernel
theorem dX11_aRule_61 : decode cX11_aRule 61 = .ok (.ifCond .ne 5, 3) := by decide +kernel
theorem dX11_aRule_64 : decode cX11_aRule 64 = .ok (.iconst 0, 1) := by decide +kernel
theorem dX11_aRule_65 : decode cX11_aRule 65 = .ok (.ireturn, 1) := by decide +kernel
theorem dX11_aRule_66 : decode cX11_aRule 66 = .ok (.aload_n 0, 1) := by decide +kernel
theorem dX11_aRule_67 : decode cX11_aRule 67 = .ok (.getfield 53, 3) := by decide +kernel
theorem dX11_aRule_70 : decode cX11_aRule 70 = .ok (.iload_n 2, 1) := by decide +kernel
theorem dX11_aRule_71 : decode cX11_aRule 71 = .ok (.aload_n 0, 1) := by decide +kernel
theorem dX11_aRule_72 : decode cX11_aRule 72 = .ok (.getfield 323, 3) := by decide +kernel
theorem dX11_aRule_75 : decode cX11_aRule 75 = .ok (.iastore, 1) := by decide +kernel
theorem dX11_aRule_76 : decode cX11_aRule 76 = .ok (.aload_n 0, 1) := by decide +kernel
theorem dX11_aRule_77 : decode cX11_aRule 77 = .ok (.getfield 56, 3) := by decide +kernel
theorem dX11_aRule_80 : decode cX11_aRule 80 = .ok (.iload_n 2, 1) := by decide +kernel
theorem dX11_aRule_81 : decode cX11_aRule 81 = .ok (.aload_n 0, 1) := by decide +kernel
theorem dX11_aRule_82 : decode cX11_aRule 82 = .ok (.getfield 323, 3) := by decide +kernel
theorem dX11_aRule_85 : decode cX11_aRule 85 = .ok (.iastore, 1) := by decide +kernel
theorem dX11_aRule_86 : decode cX11_aRule 86 = .ok (.iload_n 1, 1) := by decide +kernel
theorem dX11_aRule_87 : decode cX11_aRule 87 = .ok (.ifCond .ne 7, 3) := by decide +kernel
theorem dX11_aRule_90 : decode cX11_aRule 90 = .ok (.iconst 1, 1) := by decide +kernel
theorem dX11_aRule_91 : decode cX11_aRule 91 = .ok (.goto 4, 3) := by decide +kernel
theorem dX11_aRule_94 : decode cX11_aRule 94 = .ok (.iconst 0, 1) := by decide +kernel
theorem dX11_aRule_95 : decode cX11_aRule 95 = .ok (.istore_n 3, 1) := by decide +kernel
theorem dX11_aRule_96 : decode cX11_aRule 96 = .ok (.iload_n 1, 1) := by decide +kernel
theorem dX11_aRule_97 : decode cX11_aRule 97 = .ok (.iconst 1, 1) := by decide +kernel
theorem dX11_aRule_98 : decode cX11_aRule 98 = .ok (.if_icmp .ne 17, 3) := by decide +kernel
theorem dX11_aRule_101 : decode cX11_aRule 101 = .ok (.aload_n 0, 1) := by decide +kernel
theorem dX11_aRule_102 : decode cX11_aRule 102 = .ok (.getfield 296, 3) := by decide +kernel
theorem dX11_aRule_105 : decode cX11_aRule 105 = .ok (.iconst 3, 1) := by decide +kernel
theorem dX11_aRule_106 : decode cX11_aRule 106 = .ok (.if_icmp .ne 9, 3) := by decide +kernel
theorem dX11_aRule_109 : decode cX11_aRule 109 = .ok (.aload_n 0, 1) := by decide +kernel
theorem dX11_aRule_110 : decode cX11_aRule 110 = .ok (.invokevirtual 320, 3) := by decide +kernel
theorem dX11_aRule_113 : decode cX11_aRule 113 = .ok (.iconst 1, 1) := by decide +kernel
theorem dX11_aRule_114 : decode cX11_aRule 114 = .ok (.istore_n 3, 1) := by decide +kernel
theorem dX11_aRule_115 : decode cX11_aRule 115 = .ok (.iload_n 3, 1) := by decide +kernel
theorem dX11_aRule_116 : decode cX11_aRule 116 = .ok (.ifCond .ne 5, 3) := by decide +kernel
theorem dX11_aRule_119 : decode cX11_aRule 119 = .ok (.iconst 1, 1) := by decide +kernel
theorem dX11_aRule_120 : decode cX11_aRule 120 = .ok (.ireturn, 1) := by decide +kernel
theorem dX11_aRule_121 : decode cX11_aRule 121 = .ok (.aload_n 0, 1) := by decide +kernel
theorem dX11_aRule_122 : decode cX11_aRule 122 = .ok (.invokevirtual 353, 3) := by decide +kernel
theorem dX11_aRule_125 : decode cX11_aRule 125 = .ok (.ifCond .ne 5, 3) := by decide +kernel
theorem dX11_aRule_128 : decode cX11_aRule 128 = .ok (.iconst 0, 1) := by decide +kernel
theorem dX11_aRule_129 : decode cX11_aRule 129 = .ok (.ireturn, 1) := by decide +kernel
theorem dX11_aRule_130 : decode cX11_aRule 130 = .ok (.aload_n 0, 1) := by decide +kernel
theorem dX11_aRule_131 : decode cX11_aRule 131 = .ok (.getfield 56, 3) := by decide +kernel
theorem dX11_aRule_134 : decode cX11_aRule 134 = .ok (.iload_n 2, 1) := by decide +kernel
theorem dX11_aRule_135 : decode cX11_aRule 135 = .ok (.aload_n 0, 1) := by decide +kernel
theorem dX11_aRule_136 : decode cX11_aRule 136 = .ok (.getfield 323, 3) := by decide +kernel
theorem dX11_aRule_139 : decode cX11_aRule 139 = .ok (.iastore, 1) := by decide +kernel
theorem dX11_aRule_140 : decode cX11_aRule 140 = .ok (.iconst 1, 1) := by decide +kernel
theorem dX11_aRule_141 : decode cX11_aRule 141 = .ok (.ireturn, 1) := by decide +kernel
theorem dX11_aStep_0 : decode cX11_aStep 0 = .ok (.bipush 120, 2) := by decide +kernel
theorem dX11_aStep_2 : decode cX11_aStep 2 = .ok (.aload_n 0, 1) := by decide +kernel
theorem dX11_aStep_3 : decode cX11_aStep 3 = .ok (.getfield 65, 3) := by decide +kernel
theorem dX11_aStep_6 : decode cX11_aStep 6 = .ok (.bipush 6, 2) := by decide +kernel
theorem dX11_aStep_8 : decode cX11_aStep 8 = .ok (.iaload, 1) := by decide +kernel
theorem dX11_aStep_9 : decode cX11_aStep 9 = .ok (.iadd, 1) := by decide +kernel
theorem dX11_aStep_10 : decode cX11_aStep 10 = .ok (.istore_n 1, 1) := by decide +kernel
theorem dX11_aStep_11 : decode cX11_aStep 11 = .ok (.aload_n 0, 1) := by decide +kernel
theorem dX11_aStep_12 : decode cX11_aStep 12 = .ok (.getfield 308, 3) := by decide +kernel
theorem dX11_aStep_15 : decode cX11_aStep 15 = .ok (.istore_n 2, 1) := by decide +kernel
theorem dX11_aStep_16 : decode cX11_aStep 16 = .ok (.aload_n 0, 1) := by decide +kernel
theorem dX11_aStep_17 : decode cX11_aStep 17 = .ok (.aload_n 0, 1) := by decide +kernel
theorem dX11_aStep_18 : decode cX11_aStep 18 = .ok (.getfield 65, 3) := by decide +kernel
theorem dX11_aStep_21 : decode cX11_aStep 21 = .ok (.bipush 6, 2) := by decide +kernel
theorem dX11_aStep_23 : decode cX11_aStep 23 = .ok (.iaload, 1) := by decide +kernel
theorem dX11_aStep_24 : decode cX11_aStep 24 = .ok (.ifCond .ne 7, 3) := by decide +kernel
theorem dX11_aStep_27 : decode cX11_aStep 27 = .ok (.iconst 0, 1) := by decide +kernel
theorem dX11_aStep_28 : decode cX11_aStep 28 = .ok (.goto 13, 3) := by decide +kernel
theorem dX11_aStep_31 : decode cX11_aStep 31 = .ok (.aload_n 0, 1) := by decide +kernel
theorem dX11_aStep_32 : decode cX11_aStep 32 = .ok (.getfield 68, 3) := by decide +kernel
theorem dX11_aStep_35 : decode cX11_aStep 35 = .ok (.iload_n 1, 1) := by decide +kernel
theorem dX11_aStep_36 : decode cX11_aStep 36 = .ok (.iconst 1, 1) := by decide +kernel
theorem dX11_aStep_37 : decode cX11_aStep 37 = .ok (.isub, 1) := by decide +kernel
theorem dX11_aStep_38 : decode cX11_aStep 38 = .ok (.iaload, 1) := by decide +kernel
theorem dX11_aStep_39 : decode cX11_aStep 39 = .ok (.iconst 1, 1) := by decide +kernel
theorem dX11_aStep_40 : decode cX11_aStep 40 = .ok (.iadd, 1) := by decide +kernel
theorem dX11_aStep_41 : decode cX11_aStep 41 = .ok (.ldc 214, 2) := by decide +kernel
theorem dX11_aStep_43 : decode cX11_aStep 43 = .ok (.invokevirtual 340, 3) := by decide +kernel
theorem dX11_aStep_46 : decode cX11_aStep 46 = .ok (.ifCond .ne 5, 3) := by decide +kernel
theorem dX11_aStep_49 : decode cX11_aStep 49 = .ok (.iconst 0, 1) := by decide +kernel
theorem dX11_aStep_50 : decode cX11_aStep 50 = .ok (.ireturn, 1) := by decide +kernel
theorem dX11_aStep_51 : decode cX11_aStep 51 = .ok (.aload_n 0, 1) := by decide +kernel
theorem dX11_aStep_52 : decode cX11_aStep 52 = .ok (.getfield 68, 3) := by decide +kernel
theorem dX11_aStep_55 : decode cX11_aStep 55 = .ok (.iload_n 1, 1) := by decide +kernel
theorem dX11_aStep_56 : decode cX11_aStep 56 = .ok (.iload_n 2, 1) := by decide +kernel
theorem dX11_aStep_57 : decode cX11_aStep 57 = .ok (.iastore, 1) := by decide +kernel
theorem dX11_aStep_58 : decode cX11_aStep 58 = .ok (.aload_n 0, 1) := by decide +kernel
theorem dX11_aStep_59 : decode cX11_aStep 59 = .ok (.getfield 308, 3) := by decide +kernel
theorem dX11_aStep_62 : decode cX11_aStep 62 = .ok (.istore_n 2, 1) := by decide +kernel
theorem dX11_aStep_63 : decode cX11_aStep 63 = .ok (.aload_n 0, 1) := by decide +kernel
theorem dX11_aStep_64 : decode cX11_aStep 64 = .ok (.iconst 0, 1) := by decide +kernel
theorem dX11_aStep_65 : decode cX11_aStep 65 = .ok (.bipush 100, 2) := by decide +kernel
theorem dX11_aStep_67 : decode cX11_aStep 67 = .ok (.invokevirtual 340, 3) := by decide +kernel
theorem dX11_aStep_70 : decode cX11_aStep 70 = .ok (.ifCond .ne 5, 3) := by decide +kernel
theorem dX11_aStep_73 : decode cX11_aStep 73 = .ok (.iconst 0, 1) := by decide +kernel
theorem dX11_aStep_74 : decode cX11_aStep 74 = .ok (.ireturn, 1) := by decide +kernel
theorem dX11_aStep_75 : decode cX11_aStep 75 = .ok (.aload_n 0, 1) := by decide +kernel
theorem dX11_aStep_76 : decode cX11_aStep 76 = .ok (.getfield 71, 3) := by decide +kernel
theorem dX11_aStep_79 : decode cX11_aStep 79 = .ok (.iload_n 1, 1) := by decide +kernel
theorem dX11_aStep_80 : decode cX11_aStep 80 = .ok (.iload_n 2, 1) := by decide +kernel
theorem dX11_aStep_81 : decode cX11_aStep 81 = .ok (.iastore, 1) := by decide +kernel
theorem dX11_aStep_82 : decode cX11_aStep 82 = .ok (.aload_n 0, 1) := by decide +kernel
theorem dX11_aStep_83 : decode cX11_aStep 83 = .ok (.getfield 65, 3) := by decide +kernel
theorem dX11_aStep_86 : decode cX11_aStep 86 = .ok (.bipush 6, 2) := by decide +kernel
theorem dX11_aStep_88 : decode cX11_aStep 88 = .ok (.dup2, 1) := by decide +kernel
theorem dX11_aStep_89 : decode cX11_aStep 89 = .ok (.iaload, 1) := by decide +kernel
theorem dX11_aStep_90 : decode cX11_aStep 90 = .ok (.iconst 1, 1) := by decide +kernel
theorem dX11_aStep_91 : decode cX11_aStep 91 = .ok (.iadd, 1) := by decide +kernel
theorem dX11_aStep_92 : decode cX11_aStep 92 = .ok (.iastore, 1) := by decide +kernel
theorem dX11_aStep_93 : decode cX11_aStep 93 = .ok (.iconst 1, 1) := by decide +kernel
theorem dX11_aStep_94 : decode cX11_aStep 94 = .ok (.ireturn, 1) := by decide +kernel
theorem dX11_relief_0 : decode cX11_relief 0 = .ok (.aload_n 0, 1) := by decide +kernel
theorem dX11_relief_1 : decode cX11_relief 1 = .ok (.getfield 296, 3) := by decide +kernel
theorem dX11_relief_4 : decode cX11_relief 4 = .ok (.bipush 7, 2) := by decide +kernel
theorem dX11_relief_6 : decode cX11_relief 6 = .ok (.if_icmp .ne 14, 3) := by decide +kernel
theorem dX11_relief_9 : decode cX11_relief 9 = .ok (.aload_n 0, 1) := by decide +kernel
theorem dX11_relief_10 : decode cX11_relief 10 = .ok (.getfield 368, 3) := by decide +kernel
theorem dX11_relief_13 : decode cX11_relief 13 = .ok (.ifCond .ne 7, 3) := by decide +kernel
theorem dX11_relief_16 : decode cX11_relief 16 = .ok (.iconst 0, 1) := by decide +kernel
theorem dX11_relief_17 : decode cX11_relief 17 = .ok (.goto 30, 3) := by decide +kernel
theorem dX11_relief_20 : decode cX11_relief 20 = .ok (.aload_n 0, 1) := by decide +kernel
theorem dX11_relief_21 : decode cX11_relief 21 = .ok (.getfield 296, 3) := by decide +kernel
theorem dX11_relief_24 : decode cX11_relief 24 = .ok (.bipush 8, 2) := by decide +kernel
theorem dX11_relief_26 : decode cX11_relief 26 = .ok (.if_icmp .ne 7, 3) := by decide +kernel
theorem dX11_relief_29 : decode cX11_relief 29 = .ok (.iconst 1, 1) := by decide +kernel
theorem dX11_relief_30 : decode cX11_relief 30 = .ok (.goto 17, 3) := by decide +kernel
theorem dX11_relief_33 : decode cX11_relief 33 = .ok (.aload_n 0, 1) := by decide +kernel
theorem dX11_relief_34 : decode cX11_relief 34 = .ok (.getfield 296, 3) := by decide +kernel
theorem dX11_relief_37 : decode cX11_relief 37 = .ok (.bipush 22, 2) := by decide +kernel
theorem dX11_relief_39 : decode cX11_relief 39 = .ok (.if_icmp .ne 7, 3) := by decide +kernel
theorem dX11_relief_42 : decode cX11_relief 42 = .ok (.iconst 2, 1) := by decide +kernel
theorem dX11_relief_43 : decode cX11_relief 43 = .ok (.goto 4, 3) := by decide +kernel
theorem dX11_relief_46 : decode cX11_relief 46 = .ok (.iconst (-1), 1) := by decide +kernel
theorem dX11_relief_47 : decode cX11_relief 47 = .ok (.istore_n 1, 1) := by decide +kernel
theorem dX11_relief_48 : decode cX11_relief 48 = .ok (.iload_n 1, 1) := by decide +kernel
theorem dX11_relief_49 : decode cX11_relief 49 = .ok (.iconst (-1), 1) := by decide +kernel
theorem dX11_relief_50 : decode cX11_relief 50 = .ok (.if_icmp .ne 12, 3) := by decide +kernel
theorem dX11_relief_53 : decode cX11_relief 53 = .ok (.aload_n 0, 1) := by decide +kernel
theorem dX11_relief_54 : decode cX11_relief 54 = .ok (.iconst 1, 1) := by decide +kernel
theorem dX11_relief_55 : decode cX11_relief 55 = .ok (.invokevirtual 317, 3) := by decide +kernel
theorem dX11_relief_58 : decode cX11_relief 58 = .ok (.pop, 1) := by decide +kernel
theorem dX11_relief_59 : decode cX11_relief 59 = .ok (.goto 7, 3) := by decide +kernel
theorem dX11_relief_62 : decode cX11_relief 62 = .ok (.aload_n 0, 1) := by decide +kernel
theorem dX11_relief_63 : decode cX11_relief 63 = .ok (.invokevirtual 320, 3) := by decide +kernel
theorem dX11_relief_66 : decode cX11_relief 66 = .ok (.iload_n 1, 1) := by decide +kernel
theorem dX11_relief_67 : decode cX11_relief 67 = .ok (.ireturn, 1) := by decide +kernel
theorem dX11_lawLine_0 : decode cX11_lawLine 0 = .ok (.aload_n 0, 1) := by decide +kernel
theorem dX11_lawLine_1 : decode cX11_lawLine 1 = .ok (.getfield 296, 3) := by decide +kernel
theorem dX11_lawLine_4 : decode cX11_lawLine 4 = .ok (.bipush 20, 2) := by decide +kernel
theorem dX11_lawLine_6 : decode cX11_lawLine 6 = .ok (.bipush 24, 2) := by decide +kernel
theorem dX11_lawLine_8 : decode cX11_lawLine 8 = .ok (.invokestatic 1, 3) := by decide +kernel
theorem dX11_lawLine_11 : decode cX11_lawLine 11 = .ok (.ifCond .ne 9, 3) := by decide +kernel
theorem dX11_lawLine_14 : decode cX11_lawLine 14 = .ok (.aload_n 0, 1) := by decide +kernel
theorem dX11_lawLine_15 : decode cX11_lawLine 15 = .ok (.iconst 1, 1) := by decide +kernel
theorem dX11_lawLine_16 : decode cX11_lawLine 16 = .ok (.invokevirtual 317, 3) := by decide +kernel
theorem dX11_lawLine_19 : decode cX11_lawLine 19 = .ok (.ireturn, 1) := by decide +kernel
theorem dX11_lawLine_20 : decode cX11_lawLine 20 = .ok (.aload_n 0, 1) := by decide +kernel
theorem dX11_lawLine_21 : decode cX11_lawLine 21 = .ok (.getfield 296, 3) := by decide +kernel
theorem dX11_lawLine_24 : decode cX11_lawLine 24 = .ok (.bipush 20, 2) := by decide +kernel
theorem dX11_lawLine_26 : decode cX11_lawLine 26 = .ok (.isub, 1) := by decide +kernel
theorem dX11_lawLine_27 : decode cX11_lawLine 27 = .ok (.istore_n 1, 1) := by decide +kernel
theorem dX11_lawLine_28 : decode cX11_lawLine 28 = .ok (.aload_n 0, 1) := by decide +kernel
theorem dX11_lawLine_29 : decode cX11_lawLine 29 = .ok (.getfield 362, 3) := by decide +kernel
theorem dX11_lawLine_32 : decode cX11_lawLine 32 = .ok (.bipush 20, 2) := by decide +kernel
theorem dX11_lawLine_34 : decode cX11_lawLine 34 = .ok (.if_icmp .eq 33, 3) := by decide +kernel
theorem dX11_lawLine_37 : decode cX11_lawLine 37 = .ok (.iload_n 1, 1) := by decide +kernel
theorem dX11_lawLine_38 : decode cX11_lawLine 38 = .ok (.iconst 2, 1) := by decide +kernel
theorem dX11_lawLine_39 : decode cX11_lawLine 39 = .ok (.if_icmp .ne 13, 3) := by decide +kernel
theorem dX11_lawLine_42 : decode cX11_lawLine 42 = .ok (.aload_n 0, 1) := by decide +kernel
theorem dX11_lawLine_43 : decode cX11_lawLine 43 = .ok (.getfield 77, 3) := by decide +kernel
theorem dX11_lawLine_46 : decode cX11_lawLine 46 = .ok (.bipush 6, 2) := by decide +kernel
theorem dX11_lawLine_48 : decode cX11_lawLine 48 = .ok (.baload, 1) := by decide +kernel
theorem dX11_lawLine_49 : decode cX11_lawLine 49 = .ok (.ifCond .ne 18, 3) := by decide +kernel
theorem dX11_lawLine_52 : decode cX11_lawLine 52 = .ok (.iload_n 1, 1) := by decide +kernel
theorem dX11_lawLine_53 : decode cX11_lawLine 53 = .ok (.iconst 4, 1) := by decide +kernel
theorem dX11_lawLine_54 : decode cX11_lawLine 54 = .ok (.if_icmp .ne 19, 3) := by decide +kernel
theorem dX11_lawLine_57 : decode cX11_lawLine 57 = .ok (.aload_n 0, 1) := by decide +kernel
theorem dX11_lawLine_58 : decode cX11_lawLine 58 = .ok (.getfield 81, 3) := by decide +kernel
theorem dX11_lawLine_61 : decode cX11_lawLine 61 = .ok (.bipush 6, 2) := by decide +kernel
theorem dX11_lawLine_63 : decode cX11_lawLine 63 = .ok (.baload, 1) := by decide +kernel
theorem dX11_lawLine_64 : decode cX11_lawLine 64 = .ok (.ifCond .eq 9, 3) := by decide +kernel
theorem dX11_lawLine_67 : decode cX11_lawLine 67 = .ok (.aload_n 0, 1) := by decide +kernel
theorem dX11_lawLine_68 : decode cX11_lawLine 68 = .ok (.iconst 3, 1) := by decide +kernel
theorem dX11_lawLine_69 : decode cX11_lawLine 69 = .ok (.invokevirtual 317, 3) := by decide +kernel
theorem dX11_lawLine_72 : decode cX11_lawLine 72 = .ok (.ireturn, 1) := by decide +kernel
theorem dX11_lawLine_73 : decode cX11_lawLine 73 = .ok (.aload_n 0, 1) := by decide +kernel
theorem dX11_lawLine_74 : decode cX11_lawLine 74 = .ok (.iconst 0, 1) := by decide +kernel
theorem dX11_lawLine_75 : decode cX11_lawLine 75 = .ok (.putfield 326, 3) := by decide +kernel
theorem dX11_lawLine_78 : decode cX11_lawLine 78 = .ok (.aload_n 0, 1) := by decide +kernel
theorem dX11_lawLine_79 : decode cX11_lawLine 79 = .ok (.invokevirtual 320, 3) := by decide +kernel
theorem dX11_lawLine_82 : decode cX11_lawLine 82 = .ok (.aload_n 0, 1) := by decide +kernel
theorem dX11_lawLine_83 : decode cX11_lawLine 83 = .ok (.getfield 44, 3) := by decide +kernel
theorem dX11_lawLine_86 : decode cX11_lawLine 86 = .ok (.bipush 120, 2) := by decide +kernel
theorem dX11_lawLine_88 : decode cX11_lawLine 88 = .ok (.aload_n 0, 1) := by decide +kernel
theorem dX11_lawLine_89 : decode cX11_lawLine 89 = .ok (.getfield 362, 3) := by decide +kernel
theorem dX11_lawLine_92 : decode cX11_lawLine 92 = .ok (.iadd, 1) := by decide +kernel
theorem dX11_lawLine_93 : decode cX11_lawLine 93 = .ok (.iload_n 1, 1) := by decide +kernel
theorem dX11_lawLine_94 : decode cX11_lawLine 94 = .ok (.iastore, 1) := by decide +kernel
theorem dX11_lawLine_95 : decode cX11_lawLine 95 = .ok (.aload_n 0, 1) := by decide +kernel
theorem dX11_lawLine_96 : decode cX11_lawLine 96 = .ok (.getfield 308, 3) := by decide +kernel
theorem dX11_lawLine_99 : decode cX11_lawLine 99 = .ok (.istore_n 2, 1) := by decide +kernel
theorem dX11_lawLine_100 : decode cX11_lawLine 100 = .ok (.iload_n 1, 1) := by decide +kernel
theorem dX11_lawLine_101 : decode cX11_lawLine 101 = .ok (.iconst 2, 1) := by decide +kernel
theorem dX11_lawLine_102 : decode cX11_lawLine 102 = .ok (.if_icmp .ge 13, 3) := by decide +kernel
theorem dX11_lawLine_105 : decode cX11_lawLine 105 = .ok (.aload_n 0, 1) := by decide +kernel
theorem dX11_lawLine_106 : decode cX11_lawLine 106 = .ok (.iload_n 1, 1) := by decide +kernel
theorem dX11_lawLine_107 : decode cX11_lawLine 107 = .ok (.invokevirtual 372, 3) := by decide +kernel
theorem dX11_lawLine_110 : decode cX11_lawLine 110 = .ok (.ifCond .ne 5, 3) := by decide +kernel
theorem dX11_lawLine_113 : decode cX11_lawLine 113 = .ok (.iconst 0, 1) := by decide +kernel
theorem dX11_lawLine_114 : decode cX11_lawLine 114 = .ok (.ireturn, 1) := by decide +kernel
theorem dX11_lawLine_115 : decode cX11_lawLine 115 = .ok (.iload_n 1, 1) := by decide +kernel
theorem dX11_lawLine_116 : decode cX11_lawLine 116 = .ok (.iconst 2, 1) := by decide +kernel
theorem dX11_lawLine_117 : decode cX11_lawLine 117 = .ok (.if_icmp .ne 31, 3) := by decide +kernel
theorem dX11_lawLine_120 : decode cX11_lawLine 120 = .ok (.aload_n 0, 1) := by decide +kernel
theorem dX11_lawLine_121 : decode cX11_lawLine 121 = .ok (.iconst 0, 1) := by decide +kernel
theorem dX11_lawLine_122 : decode cX11_lawLine 122 = .ok (.ldc 214, 2) := by decide +kernel
theorem dX11_lawLine_124 : decode cX11_lawLine 124 = .ok (.invokevirtual 340, 3) := by decide +kernel
theorem dX11_lawLine_127 : decode cX11_lawLine 127 = .ok (.ifCond .ne 5, 3) := by decide +kernel
theorem dX11_lawLine_130 : decode cX11_lawLine 130 = .ok (.iconst 0, 1) := by decide +kernel
theorem dX11_lawLine_131 : decode cX11_lawLine 131 = .ok (.ireturn, 1) := by decide +kernel
theorem dX11_lawLine_132 : decode cX11_lawLine 132 = .ok (.aload_n 0, 1) := by decide +kernel
theorem dX11_lawLine_133 : decode cX11_lawLine 133 = .ok (.getfield 77, 3) := by decide +kernel
theorem dX11_lawLine_136 : decode cX11_lawLine 136 = .ok (.bipush 6, 2) := by decide +kernel
theorem dX11_lawLine_138 : decode cX11_lawLine 138 = .ok (.iconst 1, 1) := by decide +kernel
theorem dX11_lawLine_139 : decode cX11_lawLine 139 = .ok (.bastore, 1) := by decide +kernel
theorem dX11_lawLine_140 : decode cX11_lawLine 140 = .ok (.aload_n 0, 1) := by decide +kernel
theorem dX11_lawLine_141 : decode cX11_lawLine 141 = .ok (.getfield 62, 3) := by decide +kernel
theorem dX11_lawLine_144 : decode cX11_lawLine 144 = .ok (.bipush 6, 2) := by decide +kernel
theorem dX11_lawLine_146 : decode cX11_lawLine 146 = .ok (.iload_n 2, 1) := by decide +kernel
theorem dX11_lawLine_147 : decode cX11_lawLine 147 = .ok (.iastore, 1) := by decide +kernel
theorem dX11_lawLine_148 : decode cX11_lawLine 148 = .ok (.iload_n 1, 1) := by decide +kernel
theorem dX11_lawLine_149 : decode cX11_lawLine 149 = .ok (.iconst 3, 1) := by decide +kernel
theorem dX11_lawLine_150 : decode cX11_lawLine 150 = .ok (.if_icmp .ne 12, 3) := by decide +kernel
theorem dX11_lawLine_153 : decode cX11_lawLine 153 = .ok (.aload_n 0, 1) := by decide +kernel
theorem dX11_lawLine_154 : decode cX11_lawLine 154 = .ok (.invokevirtual 375, 3) := by decide +kernel
theorem dX11_lawLine_157 : decode cX11_lawLine 157 = .ok (.ifCond .ne 5, 3) := by decide +kernel
theorem dX11_lawLine_160 : decode cX11_lawLine 160 = .ok (.iconst 0, 1) := by decide +kernel
theorem dX11_lawLine_161 : decode cX11_lawLine 161 = .ok (.ireturn, 1) := by decide +kernel
theorem dX11_lawLine_162 : decode cX11_lawLine 162 = .ok (.iload_n 1, 1) := by decide +kernel
theorem dX11_lawLine_163 : decode cX11_lawLine 163 = .ok (.iconst 4, 1) := by decide +kernel
theorem dX11_lawLine_164 : decode cX11_lawLine 164 = .ok (.if_icmp .ne 35, 3) := by decide +kernel
theorem dX11_lawLine_167 : decode cX11_lawLine 167 = .ok (.aload_n 0, 1) := by decide +kernel
theorem dX11_lawLine_168 : decode cX11_lawLine 168 = .ok (.getfield 81, 3) := by decide +kernel
theorem dX11_lawLine_171 : decode cX11_lawLine 171 = .ok (.bipush 6, 2) := by decide +kernel
theorem dX11_lawLine_173 : decode cX11_lawLine 173 = .ok (.iconst 1, 1) := by decide +kernel
theorem dX11_lawLine_174 : decode cX11_lawLine 174 = .ok (.bastore, 1) := by decide +kernel
theorem dX11_lawLine_175 : decode cX11_lawLine 175 = .ok (.aload_n 0, 1) := by decide +kernel
theorem dX11_lawLine_176 : decode cX11_lawLine 176 = .ok (.getfield 74, 3) := by decide +kernel
theorem dX11_lawLine_179 : decode cX11_lawLine 179 = .ok (.bipush 6, 2) := by decide +kernel
theorem dX11_lawLine_181 : decode cX11_lawLine 181 = .ok (.aload_n 0, 1) := by decide +kernel
theorem dX11_lawLine_182 : decode cX11_lawLine 182 = .ok (.invokevirtual 378, 3) := by decide +kernel
theorem dX11_lawLine_185 : decode cX11_lawLine 185 = .ok (.iastore, 1) := by decide +kernel
theorem dX11_lawLine_186 : decode cX11_lawLine 186 = .ok (.aload_n 0, 1) := by decide +kernel
theorem dX11_lawLine_187 : decode cX11_lawLine 187 = .ok (.getfield 74, 3) := by decide +kernel
theorem dX11_lawLine_190 : decode cX11_lawLine 190 = .ok (.bipush 6, 2) := by decide +kernel
theorem dX11_lawLine_192 : decode cX11_lawLine 192 = .ok (.iaload, 1) := by decide +kernel
theorem dX11_lawLine_193 : decode cX11_lawLine 193 = .ok (.iconst (-1), 1) := by decide +kernel
theorem dX11_lawLine_194 : decode cX11_lawLine 194 = .ok (.if_icmp .ne 5, 3) := by decide +kernel
theorem dX11_lawLine_197 : decode cX11_lawLine 197 = .ok (.iconst 0, 1) := by decide +kernel
theorem dX11_lawLine_198 : decode cX11_lawLine 198 = .ok (.ireturn, 1) := by decide +kernel
theorem dX11_lawLine_199 : decode cX11_lawLine 199 = .ok (.aload_n 0, 1) := by decide +kernel
theorem dX11_lawLine_200 : decode cX11_lawLine 200 = .ok (.dup, 1) := by decide +kernel
theorem dX11_lawLine_201 : decode cX11_lawLine 201 = .ok (.getfield 362, 3) := by decide +kernel
theorem dX11_lawLine_204 : decode cX11_lawLine 204 = .ok (.iconst 1, 1) := by decide +kernel
theorem dX11_lawLine_205 : decode cX11_lawLine 205 = .ok (.iadd, 1) := by decide +kernel
theorem dX11_lawLine_206 : decode cX11_lawLine 206 = .ok (.putfield 362, 3) := by decide +kernel
theorem dX11_lawLine_209 : decode cX11_lawLine 209 = .ok (.aload_n 0, 1) := by decide +kernel
theorem dX11_lawLine_210 : decode cX11_lawLine 210 = .ok (.sipush 159, 3) := by decide +kernel
theorem dX11_lawLine_213 : decode cX11_lawLine 213 = .ok (.invokevirtual 356, 3) := by decide +kernel
theorem dX11_lawLine_216 : decode cX11_lawLine 216 = .ok (.ireturn, 1) := by decide +kernel
theorem dX11_ofKind_0 : decode cX11_ofKind 0 = .ok (.aload_n 0, 1) := by decide +kernel
theorem dX11_ofKind_1 : decode cX11_ofKind 1 = .ok (.getfield 296, 3) := by decide +kernel
theorem dX11_ofKind_4 : decode cX11_ofKind 4 = .ok (.bipush 40, 2) := by decide +kernel
theorem dX11_ofKind_6 : decode cX11_ofKind 6 = .ok (.isub, 1) := by decide +kernel
theorem dX11_ofKind_7 : decode cX11_ofKind 7 = .ok (.istore_n 2, 1) := by decide +kernel
theorem dX11_ofKind_8 : decode cX11_ofKind 8 = .ok (.iload_n 2, 1) := by decide +kernel
theorem dX11_ofKind_9 : decode cX11_ofKind 9 = .ok (.iconst 0, 1) := by decide +kernel
theorem dX11_ofKind_10 : decode cX11_ofKind 10 = .ok (.iconst 5, 1) := by decide +kernel
theorem dX11_ofKind_11 : decode cX11_ofKind 11 = .ok (.invokestatic 1, 3) := by decide +kernel
theorem dX11_ofKind_14 : decode cX11_ofKind 14 = .ok (.ifCond .eq 45, 3) := by decide +kernel
theorem dX11_ofKind_17 : decode cX11_ofKind 17 = .ok (.iload_n 1, 1) := by decide +kernel
theorem dX11_ofKind_18 : decode cX11_ofKind 18 = .ok (.bipush 6, 2) := by decide +kernel
theorem dX11_ofKind_20 : decode cX11_ofKind 20 = .ok (.if_icmp .ne 21, 3) := by decide +kernel
theorem dX11_ofKind_23 : decode cX11_ofKind 23 = .ok (.aload_n 0, 1) := by decide +kernel
theorem dX11_ofKind_24 : decode cX11_ofKind 24 = .ok (.getfield 93, 3) := by decide +kernel
theorem dX11_ofKind_27 : decode cX11_ofKind 27 = .ok (.bipush 36, 2) := by decide +kernel
theorem dX11_ofKind_29 : decode cX11_ofKind 29 = .ok (.iaload, 1) := by decide +kernel
theorem dX11_ofKind_30 : decode cX11_ofKind 30 = .ok (.iload_n 2, 1) := by decide +kernel
theorem dX11_ofKind_31 : decode cX11_ofKind 31 = .ok (.ishr, 1) := by decide +kernel
theorem dX11_ofKind_32 : decode cX11_ofKind 32 = .ok (.iconst 1, 1) := by decide +kernel
theorem dX11_ofKind_33 : decode cX11_ofKind 33 = .ok (.iand, 1) := by decide +kernel
theorem dX11_ofKind_34 : decode cX11_ofKind 34 = .ok (.iconst 1, 1) := by decide +kernel
theorem dX11_ofKind_35 : decode cX11_ofKind 35 = .ok (.if_icmp .ne 24, 3) := by decide +kernel
theorem dX11_ofKind_38 : decode cX11_ofKind 38 = .ok (.goto 17, 3) := by decide +kernel
theorem dX11_ofKind_41 : decode cX11_ofKind 41 = .ok (.aload_n 0, 1) := by decide +kernel
theorem dX11_ofKind_42 : decode cX11_ofKind 42 = .ok (.getfield 96, 3) := by decide +kernel
theorem dX11_ofKind_45 : decode cX11_ofKind 45 = .ok (.sipush 216, 3) := by decide +kernel
theorem dX11_ofKind_48 : decode cX11_ofKind 48 = .ok (.iload_n 2, 1) := by decide +kernel
theorem dX11_ofKind_49 : decode cX11_ofKind 49 = .ok (.iadd, 1) := by decide +kernel
theorem dX11_ofKind_50 : decode cX11_ofKind 50 = .ok (.iaload, 1) := by decide +kernel
theorem dX11_ofKind_51 : decode cX11_ofKind 51 = .ok (.iconst (-1), 1) := by decide +kernel
theorem dX11_ofKind_52 : decode cX11_ofKind 52 = .ok (.if_icmp .eq 7, 3) := by decide +kernel
theorem dX11_ofKind_55 : decode cX11_ofKind 55 = .ok (.iconst 1, 1) := by decide +kernel
theorem dX11_ofKind_56 : decode cX11_ofKind 56 = .ok (.goto 4, 3) := by decide +kernel
theorem dX11_ofKind_59 : decode cX11_ofKind 59 = .ok (.iconst 0, 1) := by decide +kernel
theorem dX11_ofKind_60 : decode cX11_ofKind 60 = .ok (.istore_n 3, 1) := by decide +kernel
theorem dX11_ofKind_61 : decode cX11_ofKind 61 = .ok (.iload_n 3, 1) := by decide +kernel
theorem dX11_ofKind_62 : decode cX11_ofKind 62 = .ok (.ifCond .eq 9, 3) := by decide +kernel
theorem dX11_ofKind_65 : decode cX11_ofKind 65 = .ok (.aload_n 0, 1) := by decide +kernel
theorem dX11_ofKind_66 : decode cX11_ofKind 66 = .ok (.iconst 3, 1) := by decide +kernel
theorem dX11_ofKind_67 : decode cX11_ofKind 67 = .ok (.invokevirtual 317, 3) := by decide +kernel
theorem dX11_ofKind_70 : decode cX11_ofKind 70 = .ok (.ireturn, 1) := by decide +kernel
theorem dX11_ofKind_71 : decode cX11_ofKind 71 = .ok (.aload_n 0, 1) := by decide +kernel
theorem dX11_ofKind_72 : decode cX11_ofKind 72 = .ok (.invokevirtual 365, 3) := by decide +kernel
theorem dX11_ofKind_75 : decode cX11_ofKind 75 = .ok (.ifCond .ne 5, 3) := by decide +kernel
theorem dX11_ofKind_78 : decode cX11_ofKind 78 = .ok (.iconst 0, 1) := by decide +kernel
theorem dX11_ofKind_79 : decode cX11_ofKind 79 = .ok (.ireturn, 1) := by decide +kernel
theorem dX11_ofKind_80 : decode cX11_ofKind 80 = .ok (.iload_n 1, 1) := by decide +kernel
theorem dX11_ofKind_81 : decode cX11_ofKind 81 = .ok (.bipush 6, 2) := by decide +kernel
theorem dX11_ofKind_83 : decode cX11_ofKind 83 = .ok (.if_icmp .ne 18, 3) := by decide +kernel
theorem dX11_ofKind_86 : decode cX11_ofKind 86 = .ok (.aload_n 0, 1) := by decide +kernel
theorem dX11_ofKind_87 : decode cX11_ofKind 87 = .ok (.getfield 93, 3) := by decide +kernel
theorem dX11_ofKind_90 : decode cX11_ofKind 90 = .ok (.bipush 36, 2) := by decide +kernel
theorem dX11_ofKind_92 : decode cX11_ofKind 92 = .ok (.dup2, 1) := by decide +kernel
theorem dX11_ofKind_93 : decode cX11_ofKind 93 = .ok (.iaload, 1) := by decide +kernel
theorem dX11_ofKind_94 : decode cX11_ofKind 94 = .ok (.iconst 1, 1) := by decide +kernel
theorem dX11_ofKind_95 : decode cX11_ofKind 95 = .ok (.iload_n 2, 1) := by decide +kernel
theorem dX11_ofKind_96 : decode cX11_ofKind 96 = .ok (.ishl, 1) := by decide +kernel
theorem dX11_ofKind_97 : decode cX11_ofKind 97 = .ok (.ior, 1) := by decide +kernel
theorem dX11_ofKind_98 : decode cX11_ofKind 98 = .ok (.iastore, 1) := by decide +kernel
theorem dX11_ofKind_99 : decode cX11_ofKind 99 = .ok (.iconst 1, 1) := by decide +kernel
theorem dX11_ofKind_100 : decode cX11_ofKind 100 = .ok (.ireturn, 1) := by decide +kernel
theorem dX11_ofKind_101 : decode cX11_ofKind 101 = .ok (.aload_n 0, 1) := by decide +kernel
theorem dX11_ofKind_102 : decode cX11_ofKind 102 = .ok (.getfield 96, 3) := by decide +kernel
theorem dX11_ofKind_105 : decode cX11_ofKind 105 = .ok (.sipush 216, 3) := by decide +kernel
theorem dX11_ofKind_108 : decode cX11_ofKind 108 = .ok (.iload_n 2, 1) := by decide +kernel
theorem dX11_ofKind_109 : decode cX11_ofKind 109 = .ok (.iadd, 1) := by decide +kernel
theorem dX11_ofKind_110 : decode cX11_ofKind 110 = .ok (.aload_n 0, 1) := by decide +kernel
theorem dX11_ofKind_111 : decode cX11_ofKind 111 = .ok (.getfield 308, 3) := by decide +kernel
theorem dX11_ofKind_114 : decode cX11_ofKind 114 = .ok (.iastore, 1) := by decide +kernel
theorem dX11_ofKind_115 : decode cX11_ofKind 115 = .ok (.aload_n 0, 1) := by decide +kernel
theorem dX11_ofKind_116 : decode cX11_ofKind 116 = .ok (.iconst 0, 1) := by decide +kernel
theorem dX11_ofKind_117 : decode cX11_ofKind 117 = .ok (.bipush 100, 2) := by decide +kernel
theorem dX11_ofKind_119 : decode cX11_ofKind 119 = .ok (.invokevirtual 340, 3) := by decide +kernel
theorem dX11_ofKind_122 : decode cX11_ofKind 122 = .ok (.ireturn, 1) := by decide +kernel
theorem dX11_pactLine_0 : decode cX11_pactLine 0 = .ok (.aload_n 0, 1) := by decide +kernel
theorem dX11_pactLine_1 : decode cX11_pactLine 1 = .ok (.getfield 296, 3) := by decide +kernel
theorem dX11_pactLine_4 : decode cX11_pactLine 4 = .ok (.bipush 24, 2) := by decide +kernel
theorem dX11_pactLine_6 : decode cX11_pactLine 6 = .ok (.bipush 28, 2) := by decide +kernel
theorem dX11_pactLine_8 : decode cX11_pactLine 8 = .ok (.invokestatic 1, 3) := by decide +kernel
theorem dX11_pactLine_11 : decode cX11_pactLine 11 = .ok (.ifCond .ne 9, 3) := by decide +kernel
theorem dX11_pactLine_14 : decode cX11_pactLine 14 = .ok (.aload_n 0, 1) := by decide +kernel
