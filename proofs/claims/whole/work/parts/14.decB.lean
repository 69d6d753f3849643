theorem dX10_init_0 : decode cX10_init 0 = .ok (.aload_n 0, 1) := by decide +kernel
theorem dX10_init_1 : decode cX10_init 1 = .ok (.invokespecial 1, 3) := by decide +kernel
theorem dX10_init_4 : decode cX10_init 4 = .ok (.aload_n 0, 1) := by decide +kernel
theorem dX10_init_5 : decode cX10_init 5 = .ok (.bipush 120, 2) := by decide +kernel
theorem dX10_init_7 : decode cX10_init 7 = .ok (.newarray .int, 2) := by decide +kernel
theorem dX10_init_9 : decode cX10_init 9 = .ok (.putfield 9, 3) := by decide +kernel
theorem dX10_init_12 : decode cX10_init 12 = .ok (.aload_n 0, 1) := by decide +kernel
theorem dX10_init_13 : decode cX10_init 13 = .ok (.sipush 480, 3) := by decide +kernel
theorem dX10_init_16 : decode cX10_init 16 = .ok (.newarray .int, 2) := by decide +kernel
theorem dX10_init_18 : decode cX10_init 18 = .ok (.putfield 13, 3) := by decide +kernel
theorem dX10_init_21 : decode cX10_init 21 = .ok (.aload_n 0, 1) := by decide +kernel
theorem dX10_init_22 : decode cX10_init 22 = .ok (.bipush 120, 2) := by decide +kernel
theorem dX10_init_24 : decode cX10_init 24 = .ok (.newarray .int, 2) := by decide +kernel
theorem dX10_init_26 : decode cX10_init 26 = .ok (.putfield 16, 3) := by decide +kernel
theorem dX10_init_29 : decode cX10_init 29 = .ok (.aload_n 0, 1) := by decide +kernel
theorem dX10_init_30 : decode cX10_init 30 = .ok (.iconst 4, 1) := by decide +kernel
theorem dX10_init_31 : decode cX10_init 31 = .ok (.newarray .int, 2) := by decide +kernel
theorem dX10_init_33 : decode cX10_init 33 = .ok (.putfield 19, 3) := by decide +kernel
theorem dX10_init_36 : decode cX10_init 36 = .ok (.aload_n 0, 1) := by decide +kernel
theorem dX10_init_37 : decode cX10_init 37 = .ok (.bipush 60, 2) := by decide +kernel
theorem dX10_init_39 : decode cX10_init 39 = .ok (.putfield 22, 3) := by decide +kernel
theorem dX10_init_42 : decode cX10_init 42 = .ok (.aload_n 0, 1) := by decide +kernel
theorem dX10_init_43 : decode cX10_init 43 = .ok (.bipush 10, 2) := by decide +kernel
theorem dX10_init_45 : decode cX10_init 45 = .ok (.putfield 26, 3) := by decide +kernel
theorem dX10_init_48 : decode cX10_init 48 = .ok (.aload_n 0, 1) := by decide +kernel
theorem dX10_init_49 : decode cX10_init 49 = .ok (.iconst 4, 1) := by decide +kernel
theorem dX10_init_50 : decode cX10_init 50 = .ok (.newarray .int, 2) := by decide +kernel
theorem dX10_init_52 : decode cX10_init 52 = .ok (.putfield 29, 3) := by decide +kernel
theorem dX10_init_55 : decode cX10_init 55 = .ok (.aload_n 0, 1) := by decide +kernel
theorem dX10_init_56 : decode cX10_init 56 = .ok (.sipush 1920, 3) := by decide +kernel
theorem dX10_init_59 : decode cX10_init 59 = .ok (.newarray .int, 2) := by decide +kernel
theorem dX10_init_61 : decode cX10_init 61 = .ok (.putfield 32, 3) := by decide +kernel
theorem dX10_init_64 : decode cX10_init 64 = .ok (.aload_n 0, 1) := by decide +kernel
theorem dX10_init_65 : decode cX10_init 65 = .ok (.iconst 4, 1) := by decide +kernel
theorem dX10_init_66 : decode cX10_init 66 = .ok (.newarray .int, 2) := by decide +kernel
theorem dX10_init_68 : decode cX10_init 68 = .ok (.putfield 35, 3) := by decide +kernel
theorem dX10_init_71 : decode cX10_init 71 = .ok (.aload_n 0, 1) := by decide +kernel
theorem dX10_init_72 : decode cX10_init 72 = .ok (.sipush 1920, 3) := by decide +kernel
theorem dX10_init_75 : decode cX10_init 75 = .ok (.newarray .int, 2) := by decide +kernel
theorem dX10_init_77 : decode cX10_init 77 = .ok (.putfield 38, 3) := by decide +kernel
theorem dX10_init_80 : decode cX10_init 80 = .ok (.aload_n 0, 1) := by decide +kernel
theorem dX10_init_81 : decode cX10_init 81 = .ok (.sipush 1920, 3) := by decide +kernel
theorem dX10_init_84 : decode cX10_init 84 = .ok (.newarray .boolean, 2) := by decide +kernel
theorem dX10_init_86 : decode cX10_init 86 = .ok (.putfield 41, 3) := by decide +kernel
theorem dX10_init_89 : decode cX10_init 89 = .ok (.aload_n 0, 1) := by decide +kernel
theorem dX10_init_90 : decode cX10_init 90 = .ok (.sipush 1920, 3) := by decide +kernel
theorem dX10_init_93 : decode cX10_init 93 = .ok (.newarray .int, 2) := by decide +kernel
theorem dX10_init_95 : decode cX10_init 95 = .ok (.putfield 45, 3) := by decide +kernel
theorem dX10_init_98 : decode cX10_init 98 = .ok (.aload_n 0, 1) := by decide +kernel
theorem dX10_init_99 : decode cX10_init 99 = .ok (.sipush 1920, 3) := by decide +kernel
theorem dX10_init_102 : decode cX10_init 102 = .ok (.newarray .int, 2) := by decide +kernel
theorem dX10_init_104 : decode cX10_init 104 = .ok (.putfield 48, 3) := by decide +kernel
theorem dX10_init_107 : decode cX10_init 107 = .ok (.aload_n 0, 1) := by decide +kernel
theorem dX10_init_108 : decode cX10_init 108 = .ok (.sipush 1920, 3) := by decide +kernel
theorem dX10_init_111 : decode cX10_init 111 = .ok (.newarray .int, 2) := by decide +kernel
theorem dX10_init_113 : decode cX10_init 113 = .ok (.putfield 51, 3) := by decide +kernel
theorem dX10_init_116 : decode cX10_init 116 = .ok (.aload_n 0, 1) := by decide +kernel
theorem dX10_init_117 : decode cX10_init 117 = .ok (.sipush 1920, 3) := by decide +kernel
theorem dX10_init_120 : decode cX10_init 120 = .ok (.newarray .int, 2) := by decide +kernel
theorem dX10_init_122 : decode cX10_init 122 = .ok (.putfield 54, 3) := by decide +kernel
theorem dX10_init_125 : decode cX10_init 125 = .ok (.aload_n 0, 1) := by decide +kernel
theorem dX10_init_126 : decode cX10_init 126 = .ok (.sipush 1920, 3) := by decide +kernel
theorem dX10_init_129 : decode cX10_init 129 = .ok (.newarray .int, 2) := by decide +kernel
theorem dX10_init_131 : decode cX10_init 131 = .ok (.putfield 57, 3) := by decide +kernel
theorem dX10_init_134 : decode cX10_init 134 = .ok (.aload_n 0, 1) := by decide +kernel
theorem dX10_init_135 : decode cX10_init 135 = .ok (.sipush 3000, 3) := by decide +kernel
theorem dX10_init_138 : decode cX10_init 138 = .ok (.newarray .int, 2) := by decide +kernel
theorem dX10_init_140 : decode cX10_init 140 = .ok (.putfield 60, 3) := by decide +kernel
theorem dX10_init_143 : decode cX10_init 143 = .ok (.aload_n 0, 1) := by decide +kernel
theorem dX10_init_144 : decode cX10_init 144 = .ok (.sipush 3000, 3) := by decide +kernel
theorem dX10_init_147 : decode cX10_init 147 = .ok (.newarray .int, 2) := by decide +kernel
theorem dX10_init_149 : decode cX10_init 149 = .ok (.putfield 63, 3) := by decide +kernel
theorem dX10_init_152 : decode cX10_init 152 = .ok (.aload_n 0, 1) := by decide +kernel
theorem dX10_init_153 : decode cX10_init 153 = .ok (.sipush 3000, 3) := by decide +kernel
theorem dX10_init_156 : decode cX10_init 156 = .ok (.newarray .int, 2) := by decide +kernel
theorem dX10_init_158 : decode cX10_init 158 = .ok (.putfield 66, 3) := by decide +kernel
theorem dX10_init_161 : decode cX10_init 161 = .ok (.aload_n 0, 1) := by decide +kernel
theorem dX10_init_162 : decode cX10_init 162 = .ok (.sipush 3000, 3) := by decide +kernel
theorem dX10_init_165 : decode cX10_init 165 = .ok (.newarray .int, 2) := by decide +kernel
theorem dX10_init_167 : decode cX10_init 167 = .ok (.putfield 69, 3) := by decide +kernel
theorem dX10_init_170 : decode cX10_init 170 = .ok (.aload_n 0, 1) := by decide +kernel
theorem dX10_init_171 : decode cX10_init 171 = .ok (.sipush 3000, 3) := by decide +kernel
theorem dX10_init_174 : decode cX10_init 174 = .ok (.newarray .int, 2) := by decide +kernel
theorem dX10_init_176 : decode cX10_init 176 = .ok (.putfield 72, 3) := by decide +kernel
theorem dX10_init_179 : decode cX10_init 179 = .ok (.aload_n 0, 1) := by decide +kernel
theorem dX10_init_180 : decode cX10_init 180 = .ok (.sipush 3000, 3) := by decide +kernel
theorem dX10_init_183 : decode cX10_init 183 = .ok (.newarray .int, 2) := by decide +kernel
theorem dX10_init_185 : decode cX10_init 185 = .ok (.putfield 75, 3) := by decide +kernel
theorem dX10_init_188 : decode cX10_init 188 = .ok (.aload_n 0, 1) := by decide +kernel
theorem dX10_init_189 : decode cX10_init 189 = .ok (.sipush 3000, 3) := by decide +kernel
theorem dX10_init_192 : decode cX10_init 192 = .ok (.newarray .int, 2) := by decide +kernel
theorem dX10_init_194 : decode cX10_init 194 = .ok (.putfield 78, 3) := by decide +kernel
theorem dX10_init_197 : decode cX10_init 197 = .ok (.aload_n 0, 1) := by decide +kernel
theorem dX10_init_198 : decode cX10_init 198 = .ok (.sipush 3000, 3) := by decide +kernel
theorem dX10_init_201 : decode cX10_init 201 = .ok (.newarray .int, 2) := by decide +kernel
theorem dX10_init_203 : decode cX10_init 203 = .ok (.putfield 81, 3) := by decide +kernel
theorem dX10_init_206 : decode cX10_init 206 = .ok (.aload_n 0, 1) := by decide +kernel
theorem dX10_init_207 : decode cX10_init 207 = .ok (.sipush 3000, 3) := by decide +kernel
theorem dX10_init_210 : decode cX10_init 210 = .ok (.newarray .int, 2) := by decide +kernel
theorem dX10_init_212 : decode cX10_init 212 = .ok (.putfield 84, 3) := by decide +kernel
theorem dX10_init_215 : decode cX10_init 215 = .ok (.aload_n 0, 1) := by decide +kernel
theorem dX10_init_216 : decode cX10_init 216 = .ok (.sipush 3000, 3) := by decide +kernel
theorem dX10_init_219 : decode cX10_init 219 = .ok (.newarray .int, 2) := by decide +kernel
theorem dX10_init_221 : decode cX10_init 221 = .ok (.putfield 87, 3) := by decide +kernel
theorem dX10_init_224 : decode cX10_init 224 = .ok (.aload_n 0, 1) := by decide +kernel
theorem dX10_init_225 : decode cX10_init 225 = .ok (.sipush 480, 3) := by decide +kernel
theorem dX10_init_228 : decode cX10_init 228 = .ok (.newarray .int, 2) := by decide +kernel
theorem dX10_init_230 : decode cX10_init 230 = .ok (.putfield 90, 3) := by decide +kernel
theorem dX10_init_233 : decode cX10_init 233 = .ok (.aload_n 0, 1) := by decide +kernel
theorem dX10_init_234 : decode cX10_init 234 = .ok (.sipush 480, 3) := by decide +kernel
theorem dX10_init_237 : decode cX10_init 237 = .ok (.newarray .int, 2) := by decide +kernel
theorem dX10_init_239 : decode cX10_init 239 = .ok (.putfield 93, 3) := by decide +kernel
theorem dX10_init_242 : decode cX10_init 242 = .ok (.aload_n 0, 1) := by decide +kernel
theorem dX10_init_243 : decode cX10_init 243 = .ok (.bipush 81, 2) := by decide +kernel
theorem dX10_init_245 : decode cX10_init 245 = .ok (.newarray .int, 2) := by decide +kernel
theorem dX10_init_247 : decode cX10_init 247 = .ok (.putfield 96, 3) := by decide +kernel
theorem dX10_init_250 : decode cX10_init 250 = .ok (.aload_n 0, 1) := by decide +kernel
theorem dX10_init_251 : decode cX10_init 251 = .ok (.bipush 8, 2) := by decide +kernel
theorem dX10_init_253 : decode cX10_init 253 = .ok (.newarray .long, 2) := by decide +kernel
theorem dX10_init_255 : decode cX10_init 255 = .ok (.putfield 99, 3) := by decide +kernel
theorem dX10_init_258 : decode cX10_init 258 = .ok (.aload_n 0, 1) := by decide +kernel
theorem dX10_init_259 : decode cX10_init 259 = .ok (.iconst 1, 1) := by decide +kernel
theorem dX10_init_260 : decode cX10_init 260 = .ok (.putfield 103, 3) := by decide +kernel
theorem dX10_init_263 : decode cX10_init 263 = .ok (.aload_n 0, 1) := by decide +kernel
theorem dX10_init_264 : decode cX10_init 264 = .ok (.bipush 120, 2) := by decide +kernel
theorem dX10_init_266 : decode cX10_init 266 = .ok (.newarray .boolean, 2) := by decide +kernel
theorem dX10_init_268 : decode cX10_init 268 = .ok (.putfield 107, 3) := by decide +kernel
theorem dX10_init_271 : decode cX10_init 271 = .ok (.aload_n 0, 1) := by decide +kernel
theorem dX10_init_272 : decode cX10_init 272 = .ok (.bipush 120, 2) := by decide +kernel
theorem dX10_init_274 : decode cX10_init 274 = .ok (.newarray .int, 2) := by decide +kernel
theorem dX10_init_276 : decode cX10_init 276 = .ok (.putfield 110, 3) := by decide +kernel
theorem dX10_init_279 : decode cX10_init 279 = .ok (.aload_n 0, 1) := by decide +kernel
theorem dX10_init_280 : decode cX10_init 280 = .ok (.sipush 2400, 3) := by decide +kernel
theorem dX10_init_283 : decode cX10_init 283 = .ok (.newarray .int, 2) := by decide +kernel
theorem dX10_init_285 : decode cX10_init 285 = .ok (.putfield 113, 3) := by decide +kernel
theorem dX10_init_288 : decode cX10_init 288 = .ok (.aload_n 0, 1) := by decide +kernel
theorem dX10_init_289 : decode cX10_init 289 = .ok (.getfield 19, 3) := by decide +kernel
theorem dX10_init_292 : decode cX10_init 292 = .ok (.iconst 0, 1) := by decide +kernel
theorem dX10_init_293 : decode cX10_init 293 = .ok (.sipush 200, 3) := by decide +kernel
theorem dX10_init_296 : decode cX10_init 296 = .ok (.iastore, 1) := by decide +kernel
theorem dX10_init_297 : decode cX10_init 297 = .ok (.aload_n 0, 1) := by decide +kernel
theorem dX10_init_298 : decode cX10_init 298 = .ok (.getfield 19, 3) := by decide +kernel
theorem dX10_init_301 : decode cX10_init 301 = .ok (.iconst 1, 1) := by decide +kernel
theorem dX10_init_302 : decode cX10_init 302 = .ok (.sipush 1000, 3) := by decide +kernel
theorem dX10_init_305 : decode cX10_init 305 = .ok (.iastore, 1) := by decide +kernel
theorem dX10_init_306 : decode cX10_init 306 = .ok (.aload_n 0, 1) := by decide +kernel
theorem dX10_init_307 : decode cX10_init 307 = .ok (.getfield 19, 3) := by decide +kernel
theorem dX10_init_310 : decode cX10_init 310 = .ok (.iconst 2, 1) := by decide +kernel
theorem dX10_init_311 : decode cX10_init 311 = .ok (.sipush 2000, 3) := by decide +kernel
theorem dX10_init_314 : decode cX10_init 314 = .ok (.iastore, 1) := by decide +kernel
theorem dX10_init_315 : decode cX10_init 315 = .ok (.aload_n 0, 1) := by decide +kernel
theorem dX10_init_316 : decode cX10_init 316 = .ok (.getfield 19, 3) := by decide +kernel
theorem dX10_init_319 : decode cX10_init 319 = .ok (.iconst 3, 1) := by decide +kernel
theorem dX10_init_320 : decode cX10_init 320 = .ok (.sipush 3000, 3) := by decide +kernel
theorem dX10_init_323 : decode cX10_init 323 = .ok (.iastore, 1) := by decide +kernel
theorem dX10_init_324 : decode cX10_init 324 = .ok (.iconst 0, 1) := by decide +kernel
theorem dX10_init_325 : decode cX10_init 325 = .ok (.istore_n 1, 1) := by decide +kernel
theorem dX10_init_326 : decode cX10_init 326 = .ok (.iload_n 1, 1) := by decide +kernel
theorem dX10_init_327 : decode cX10_init 327 = .ok (.sipush 1920, 3) := by decide +kernel
theorem dX10_init_330 : decode cX10_init 330 = .ok (.if_icmp .ge 25, 3) := by decide +kernel
theorem dX10_init_333 : decode cX10_init 333 = .ok (.aload_n 0, 1) := by decide +kernel
theorem dX10_init_334 : decode cX10_init 334 = .ok (.getfield 48, 3) := by decide +kernel
theorem dX10_init_337 : decode cX10_init 337 = .ok (.iload_n 1, 1) := by decide +kernel
theorem dX10_init_338 : decode cX10_init 338 = .ok (.sipush 2500, 3) := by decide +kernel
theorem dX10_init_341 : decode cX10_init 341 = .ok (.iastore, 1) := by decide +kernel
theorem dX10_init_342 : decode cX10_init 342 = .ok (.aload_n 0, 1) := by decide +kernel
theorem dX10_init_343 : decode cX10_init 343 = .ok (.getfield 54, 3) := by decide +kernel
theorem dX10_init_346 : decode cX10_init 346 = .ok (.iload_n 1, 1) := by decide +kernel
theorem dX10_init_347 : decode cX10_init 347 = .ok (.iconst (-1), 1) := by decide +kernel
theorem dX10_init_348 : decode cX10_init 348 = .ok (.iastore, 1) := by decide +kernel
theorem dX10_init_349 : decode cX10_init 349 = .ok (.iinc 1 1, 3) := by decide +kernel
theorem dX10_init_352 : decode cX10_init 352 = .ok (.goto (-26), 3) := by decide +kernel
theorem dX10_init_355 : decode cX10_init 355 = .ok (.iconst 0, 1) := by decide +kernel
theorem dX10_init_356 : decode cX10_init 356 = .ok (.istore_n 1, 1) := by decide +kernel
theorem dX10_init_357 : decode cX10_init 357 = .ok (.iload_n 1, 1) := by decide +kernel
theorem dX10_init_358 : decode cX10_init 358 = .ok (.sipush 480, 3) := by decide +kernel
theorem dX10_init_361 : decode cX10_init 361 = .ok (.if_icmp .ge 16, 3) := by decide +kernel
theorem dX10_init_364 : decode cX10_init 364 = .ok (.aload_n 0, 1) := by decide +kernel
theorem dX10_init_365 : decode cX10_init 365 = .ok (.getfield 93, 3) := by decide +kernel
theorem dX10_init_368 : decode cX10_init 368 = .ok (.iload_n 1, 1) := by decide +kernel
theorem dX10_init_369 : decode cX10_init 369 = .ok (.iconst (-1), 1) := by decide +kernel
theorem dX10_init_370 : decode cX10_init 370 = .ok (.iastore, 1) := by decide +kernel
theorem dX10_init_371 : decode cX10_init 371 = .ok (.iinc 1 1, 3) := by decide +kernel
theorem dX10_init_374 : decode cX10_init 374 = .ok (.goto (-17), 3) := by decide +kernel
theorem dX10_init_377 : decode cX10_init 377 = .ok (.return_, 1) := by decide +kernel
theorem dX10_within_0 : decode cX10_within 0 = .ok (.iload_n 0, 1) := by decide +kernel
theorem dX10_within_1 : decode cX10_within 1 = .ok (.iload_n 1, 1) := by decide +kernel
theorem dX10_within_2 : decode cX10_within 2 = .ok (.if_icmp .lt 12, 3) := by decide +kernel
theorem dX10_within_5 : decode cX10_within 5 = .ok (.iload_n 0, 1) := by decide +kernel
theorem dX10_within_6 : decode cX10_within 6 = .ok (.iload_n 2, 1) := by decide +kernel
theorem dX10_within_7 : decode cX10_within 7 = .ok (.if_icmp .gt 7, 3) := by decide +kernel
theorem dX10_within_10 : decode cX10_within 10 = .ok (.iconst 1, 1) := by decide +kernel
theorem dX10_within_11 : decode cX10_within 11 = .ok (.goto 4, 3) := by decide +kernel
theorem dX10_within_14 : decode cX10_within 14 = .ok (.iconst 0, 1) := by decide +kernel
theorem dX10_within_15 : decode cX10_within 15 = .ok (.ireturn, 1) := by decide +kernel
theorem dX10_isPupil_0 : decode cX10_isPupil 0 = .ok (.iload_n 0, 1) := by decide +kernel
theorem dX10_isPupil_1 : decode cX10_isPupil 1 = .ok (.ifCond .lt 12, 3) := by decide +kernel
theorem dX10_isPupil_4 : decode cX10_isPupil 4 = .ok (.iload_n 0, 1) := by decide +kernel
theorem dX10_isPupil_5 : decode cX10_isPupil 5 = .ok (.iconst 4, 1) := by decide +kernel
theorem dX10_isPupil_6 : decode cX10_isPupil 6 = .ok (.if_icmp .ge 7, 3) := by decide +kernel
theorem dX10_isPupil_9 : decode cX10_isPupil 9 = .ok (.iconst 1, 1) := by decide +kernel
theorem dX10_isPupil_10 : decode cX10_isPupil 10 = .ok (.goto 4, 3) := by decide +kernel
theorem dX10_isPupil_13 : decode cX10_isPupil 13 = .ok (.iconst 0, 1) := by decide +kernel
theorem dX10_isPupil_14 : decode cX10_isPupil 14 = .ok (.ireturn, 1) := by decide +kernel
theorem dX10_isCard_0 : decode cX10_isCard 0 = .ok (.iload_n 1, 1) := by decide +kernel
theorem dX10_isCard_1 : decode cX10_isCard 1 = .ok (.ifCond .lt 15, 3) := by decide +kernel
theorem dX10_isCard_4 : decode cX10_isCard 4 = .ok (.iload_n 1, 1) := by decide +kernel
theorem dX10_isCard_5 : decode cX10_isCard 5 = .ok (.aload_n 0, 1) := by decide +kernel
theorem dX10_isCard_6 : decode cX10_isCard 6 = .ok (.getfield 116, 3) := by decide +kernel
theorem dX10_isCard_9 : decode cX10_isCard 9 = .ok (.if_icmp .ge 7, 3) := by decide +kernel
theorem dX10_isCard_12 : decode cX10_isCard 12 = .ok (.iconst 1, 1) := by decide +kernel
theorem dX10_isCard_13 : decode cX10_isCard 13 = .ok (.goto 4, 3) := by decide +kernel
theorem dX10_isCard_16 : decode cX10_isCard 16 = .ok (.iconst 0, 1) := by decide +kernel
theorem dX10_isCard_17 : decode cX10_isCard 17 = .ok (.ireturn, 1) := by decide +kernel
theorem dX10_isSide_0 : decode cX10_isSide 0 = .ok (.aload_n 0, 1) := by decide +kernel
theorem dX10_isSide_1 : decode cX10_isSide 1 = .ok (.iload_n 1, 1) := by decide +kernel
theorem dX10_isSide_2 : decode cX10_isSide 2 = .ok (.invokevirtual 119, 3) := by decide +kernel
theorem dX10_isSide_5 : decode cX10_isSide 5 = .ok (.ifCond .eq 21, 3) := by decide +kernel
theorem dX10_isSide_8 : decode cX10_isSide 8 = .ok (.iload_n 2, 1) := by decide +kernel
theorem dX10_isSide_9 : decode cX10_isSide 9 = .ok (.ifCond .lt 17, 3) := by decide +kernel
theorem dX10_isSide_12 : decode cX10_isSide 12 = .ok (.iload_n 2, 1) := by decide +kernel
theorem dX10_isSide_13 : decode cX10_isSide 13 = .ok (.aload_n 0, 1) := by decide +kernel
theorem dX10_isSide_14 : decode cX10_isSide 14 = .ok (.getfield 9, 3) := by decide +kernel
theorem dX10_isSide_17 : decode cX10_isSide 17 = .ok (.iload_n 1, 1) := by decide +kernel
theorem dX10_isSide_18 : decode cX10_isSide 18 = .ok (.iaload, 1) := by decide +kernel
theorem dX10_isSide_19 : decode cX10_isSide 19 = .ok (.if_icmp .ge 7, 3) := by decide +kernel
theorem dX10_isSide_22 : decode cX10_isSide 22 = .ok (.iconst 1, 1) := by decide +kernel
theorem dX10_isSide_23 : decode cX10_isSide 23 = .ok (.goto 4, 3) := by decide +kernel
theorem dX10_isSide_26 : decode cX10_isSide 26 = .ok (.iconst 0, 1) := by decide +kernel
theorem dX10_isSide_27 : decode cX10_isSide 27 = .ok (.ireturn, 1) := by decide +kernel
theorem dX10_card_0 : decode cX10_card 0 = .ok (.iload_n 1, 1) := by decide +kernel
theorem dX10_card_1 : decode cX10_card 1 = .ok (.iconst 1, 1) := by decide +kernel
theorem dX10_card_2 : decode cX10_card 2 = .ok (.iconst 4, 1) := by decide +kernel
theorem dX10_card_3 : decode cX10_card 3 = .ok (.invokestatic 123, 3) := by decide +kernel
theorem dX10_card_6 : decode cX10_card 6 = .ok (.ifCond .ne 5, 3) := by decide +kernel
theorem dX10_card_9 : decode cX10_card 9 = .ok (.iconst (-1), 1) := by decide +kernel
theorem dX10_card_10 : decode cX10_card 10 = .ok (.ireturn, 1) := by decide +kernel
theorem dX10_card_11 : decode cX10_card 11 = .ok (.aload_n 0, 1) := by decide +kernel
theorem dX10_card_12 : decode cX10_card 12 = .ok (.getfield 116, 3) := by decide +kernel
theorem dX10_card_15 : decode cX10_card 15 = .ok (.bipush 120, 2) := by decide +kernel
theorem dX10_card_17 : decode cX10_card 17 = .ok (.if_icmp .ne 6, 3) := by decide +kernel
theorem dX10_card_20 : decode cX10_card 20 = .ok (.bipush (-2), 2) := by decide +kernel
theorem dX10_card_22 : decode cX10_card 22 = .ok (.ireturn, 1) := by decide +kernel
theorem dX10_card_23 : decode cX10_card 23 = .ok (.aload_n 0, 1) := by decide +kernel
theorem dX10_card_24 : decode cX10_card 24 = .ok (.getfield 9, 3) := by decide +kernel
theorem dX10_card_27 : decode cX10_card 27 = .ok (.aload_n 0, 1) := by decide +kernel
theorem dX10_card_28 : decode cX10_card 28 = .ok (.getfield 116, 3) := by decide +kernel
theorem dX10_card_31 : decode cX10_card 31 = .ok (.iload_n 1, 1) := by decide +kernel
theorem dX10_card_32 : decode cX10_card 32 = .ok (.iastore, 1) := by decide +kernel
theorem dX10_card_33 : decode cX10_card 33 = .ok (.aload_n 0, 1) := by decide +kernel
theorem dX10_card_34 : decode cX10_card 34 = .ok (.getfield 16, 3) := by decide +kernel
theorem dX10_card_37 : decode cX10_card 37 = .ok (.aload_n 0, 1) := by decide +kernel
theorem dX10_card_38 : decode cX10_card 38 = .ok (.getfield 116, 3) := by decide +kernel
theorem dX10_card_41 : decode cX10_card 41 = .ok (.iconst 0, 1) := by decide +kernel
theorem dX10_card_42 : decode cX10_card 42 = .ok (.iastore, 1) := by decide +kernel
theorem dX10_card_43 : decode cX10_card 43 = .ok (.aload_n 0, 1) := by decide +kernel
theorem dX10_card_44 : decode cX10_card 44 = .ok (.dup, 1) := by decide +kernel
theorem dX10_card_45 : decode cX10_card 45 = .ok (.getfield 116, 3) := by decide +kernel
theorem dX10_card_48 : decode cX10_card 48 = .ok (.iconst 1, 1) := by decide +kernel
theorem dX10_card_49 : decode cX10_card 49 = .ok (.iadd, 1) := by decide +kernel
theorem dX10_card_50 : decode cX10_card 50 = .ok (.putfield 116, 3) := by decide +kernel
theorem dX10_card_53 : decode cX10_card 53 = .ok (.aload_n 0, 1) := by decide +kernel
theorem dX10_card_54 : decode cX10_card 54 = .ok (.getfield 116, 3) := by decide +kernel
theorem dX10_card_57 : decode cX10_card 57 = .ok (.iconst 1, 1) := by decide +kernel
theorem dX10_card_58 : decode cX10_card 58 = .ok (.isub, 1) := by decide +kernel
theorem dX10_card_59 : decode cX10_card 59 = .ok (.ireturn, 1) := by decide +kernel
theorem dX10_leads_0 : decode cX10_leads 0 = .ok (.iconst 0, 1) := by decide +kernel
theorem dX10_leads_1 : decode cX10_leads 1 = .ok (.istore_n 3, 1) := by decide +kernel
theorem dX10_leads_2 : decode cX10_leads 2 = .ok (.iload_n 3, 1) := by decide +kernel
theorem dX10_leads_3 : decode cX10_leads 3 = .ok (.aload_n 0, 1) := by decide +kernel
theorem dX10_leads_4 : decode cX10_leads 4 = .ok (.getfield 116, 3) := by decide +kernel
theorem dX10_leads_7 : decode cX10_leads 7 = .ok (.if_icmp .ge 25, 3) := by decide +kernel
theorem dX10_leads_10 : decode cX10_leads 10 = .ok (.aload_n 0, 1) := by decide +kernel
theorem dX10_leads_11 : decode cX10_leads 11 = .ok (.getfield 107, 3) := by decide +kernel
theorem dX10_leads_14 : decode cX10_leads 14 = .ok (.iload_n 3, 1) := by decide +kernel
theorem dX10_leads_15 : decode cX10_leads 15 = .ok (.iload_n 3, 1) := by decide +kernel
theorem dX10_leads_16 : decode cX10_leads 16 = .ok (.iload_n 1, 1) := by decide +kernel
theorem dX10_leads_17 : decode cX10_leads 17 = .ok (.if_icmp .ne 7, 3) := by decide +kernel
theorem dX10_leads_20 : decode cX10_leads 20 = .ok (.iconst 1, 1) := by decide +kernel
theorem dX10_leads_21 : decode cX10_leads 21 = .ok (.goto 4, 3) := by decide +kernel
theorem dX10_leads_24 : decode cX10_leads 24 = .ok (.iconst 0, 1) := by decide +kernel
theorem dX10_leads_25 : decode cX10_leads 25 = .ok (.bastore, 1) := by decide +kernel
theorem dX10_leads_26 : decode cX10_leads 26 = .ok (.iinc 3 1, 3) := by decide +kernel
theorem dX10_leads_29 : decode cX10_leads 29 = .ok (.goto (-27), 3) := by decide +kernel
theorem dX10_leads_32 : decode cX10_leads 32 = .ok (.iconst 1, 1) := by decide +kernel
theorem dX10_leads_33 : decode cX10_leads 33 = .ok (.istore_n 3, 1) := by decide +kernel
theorem dX10_leads_34 : decode cX10_leads 34 = .ok (.iload_n 3, 1) := by decide +kernel
theorem dX10_leads_35 : decode cX10_leads 35 = .ok (.ifCond .eq 105, 3) := by decide +kernel
theorem dX10_leads_38 : decode cX10_leads 38 = .ok (.iconst 0, 1) := by decide +kernel
theorem dX10_leads_39 : decode cX10_leads 39 = .ok (.istore_n 3, 1) := by decide +kernel
theorem dX10_leads_40 : decode cX10_leads 40 = .ok (.iconst 0, 1) := by decide +kernel
theorem dX10_leads_41 : decode cX10_leads 41 = .ok (.istore 4, 2) := by decide +kernel
theorem dX10_leads_43 : decode cX10_leads 43 = .ok (.iload 4, 2) := by decide +kernel
theorem dX10_leads_45 : decode cX10_leads 45 = .ok (.aload_n 0, 1) := by decide +kernel
theorem dX10_leads_46 : decode cX10_leads 46 = .ok (.getfield 116, 3) := by decide +kernel
theorem dX10_leads_49 : decode cX10_leads 49 = .ok (.if_icmp .ge 88, 3) := by decide +kernel
theorem dX10_leads_52 : decode cX10_leads 52 = .ok (.iconst 0, 1) := by decide +kernel
theorem dX10_leads_53 : decode cX10_leads 53 = .ok (.istore 5, 2) := by decide +kernel
theorem dX10_leads_55 : decode cX10_leads 55 = .ok (.iload 5, 2) := by decide +kernel
theorem dX10_leads_57 : decode cX10_leads 57 = .ok (.aload_n 0, 1) := by decide +kernel
theorem dX10_leads_58 : decode cX10_leads 58 = .ok (.getfield 16, 3) := by decide +kernel
theorem dX10_leads_61 : decode cX10_leads 61 = .ok (.iload 4, 2) := by decide +kernel
theorem dX10_leads_63 : decode cX10_leads 63 = .ok (.iaload, 1) := by decide +kernel
theorem dX10_leads_64 : decode cX10_leads 64 = .ok (.if_icmp .ge 67, 3) := by decide +kernel
theorem dX10_leads_67 : decode cX10_leads 67 = .ok (.aload_n 0, 1) := by decide +kernel
theorem dX10_leads_68 : decode cX10_leads 68 = .ok (.getfield 107, 3) := by decide +kernel
theorem dX10_leads_71 : decode cX10_leads 71 = .ok (.iload 4, 2) := by decide +kernel
theorem dX10_leads_73 : decode cX10_leads 73 = .ok (.baload, 1) := by decide +kernel
theorem dX10_leads_74 : decode cX10_leads 74 = .ok (.ifCond .eq 57, 3) := by decide +kernel
theorem dX10_leads_77 : decode cX10_leads 77 = .ok (.iload_n 3, 1) := by decide +kernel
theorem dX10_leads_78 : decode cX10_leads 78 = .ok (.ifCond .ne 23, 3) := by decide +kernel
theorem dX10_leads_81 : decode cX10_leads 81 = .ok (.aload_n 0, 1) := by decide +kernel
theorem dX10_leads_82 : decode cX10_leads 82 = .ok (.getfield 107, 3) := by decide +kernel
theorem dX10_leads_85 : decode cX10_leads 85 = .ok (.aload_n 0, 1) := by decide +kernel
theorem dX10_leads_86 : decode cX10_leads 86 = .ok (.getfield 13, 3) := by decide +kernel
theorem dX10_leads_89 : decode cX10_leads 89 = .ok (.iconst 4, 1) := by decide +kernel
theorem dX10_leads_90 : decode cX10_leads 90 = .ok (.iload 4, 2) := by decide +kernel
theorem dX10_leads_92 : decode cX10_leads 92 = .ok (.imul, 1) := by decide +kernel
theorem dX10_leads_93 : decode cX10_leads 93 = .ok (.iload 5, 2) := by decide +kernel
theorem dX10_leads_95 : decode cX10_leads 95 = .ok (.iadd, 1) := by decide +kernel
theorem dX10_leads_96 : decode cX10_leads 96 = .ok (.iaload, 1) := by decide +kernel
theorem dX10_leads_97 : decode cX10_leads 97 = .ok (.baload, 1) := by decide +kernel
theorem dX10_leads_98 : decode cX10_leads 98 = .ok (.ifCond .ne 7, 3) := by decide +kernel
theorem dX10_leads_101 : decode cX10_leads 101 = .ok (.iconst 1, 1) := by decide +kernel
theorem dX10_leads_102 : decode cX10_leads 102 = .ok (.goto 4, 3) := by decide +kernel
theorem dX10_leads_105 : decode cX10_leads 105 = .ok (.iconst 0, 1) := by decide +kernel
theorem dX10_leads_106 : decode cX10_leads 106 = .ok (.istore_n 3, 1) := by decide +kernel
theorem dX10_leads_107 : decode cX10_leads 107 = .ok (.aload_n 0, 1) := by decide +kernel
theorem dX10_leads_108 : decode cX10_leads 108 = .ok (.getfield 107, 3) := by decide +kernel
theorem dX10_leads_111 : decode cX10_leads 111 = .ok (.aload_n 0, 1) := by decide +kernel
theorem dX10_leads_112 : decode cX10_leads 112 = .ok (.getfield 13, 3) := by decide +kernel
theorem dX10_leads_115 : decode cX10_leads 115 = .ok (.iconst 4, 1) := by decide +kernel
theorem dX10_leads_116 : decode cX10_leads 116 = .ok (.iload 4, 2) := by decide +kernel
theorem dX10_leads_118 : decode cX10_leads 118 = .ok (.imul, 1) := by decide +kernel
theorem dX10_leads_119 : decode cX10_leads 119 = .ok (.iload 5, 2) := by decide +kernel
theorem dX10_leads_121 : decode cX10_leads 121 = .ok (.iadd, 1) := by decide +kernel
theorem dX10_leads_122 : decode cX10_leads 122 = .ok (.iaload, 1) := by decide +kernel
theorem dX10_leads_123 : decode cX10_leads 123 = .ok (.iconst 1, 1) := by decide +kernel
theorem dX10_leads_124 : decode cX10_leads 124 = .ok (.bastore, 1) := by decide +kernel
theorem dX10_leads_125 : decode cX10_leads 125 = .ok (.iinc 5 1, 3) := by decide +kernel
theorem dX10_leads_128 : decode cX10_leads 128 = .ok (.goto (-73), 3) := by decide +kernel
theorem dX10_leads_131 : decode cX10_leads 131 = .ok (.iinc 4 1, 3) := by decide +kernel
theorem dX10_leads_134 : decode cX10_leads 134 = .ok (.goto (-91), 3) := by decide +kernel
theorem dX10_leads_137 : decode cX10_leads 137 = .ok (.goto (-103), 3) := by decide +kernel
theorem dX10_leads_140 : decode cX10_leads 140 = .ok (.aload_n 0, 1) := by decide +kernel
theorem dX10_leads_141 : decode cX10_leads 141 = .ok (.getfield 107, 3) := by decide +kernel
theorem dX10_leads_144 : decode cX10_leads 144 = .ok (.iload_n 2, 1) := by decide +kernel
theorem dX10_leads_145 : decode cX10_leads 145 = .ok (.baload, 1) := by decide +kernel
theorem dX10_leads_146 : decode cX10_leads 146 = .ok (.ireturn, 1) := by decide +kernel
theorem dX10_lean_0 : decode cX10_lean 0 = .ok (.aload_n 0, 1) := by decide +kernel
theorem dX10_lean_1 : decode cX10_lean 1 = .ok (.iload_n 1, 1) := by decide +kernel
theorem dX10_lean_2 : decode cX10_lean 2 = .ok (.invokevirtual 119, 3) := by decide +kernel
theorem dX10_lean_5 : decode cX10_lean 5 = .ok (.ifCond .eq 16, 3) := by decide +kernel
theorem dX10_lean_8 : decode cX10_lean 8 = .ok (.aload_n 0, 1) := by decide +kernel
theorem dX10_lean_9 : decode cX10_lean 9 = .ok (.iload_n 2, 1) := by decide +kernel
theorem dX10_lean_10 : decode cX10_lean 10 = .ok (.invokevirtual 119, 3) := by decide +kernel
theorem dX10_lean_13 : decode cX10_lean 13 = .ok (.ifCond .eq 8, 3) := by decide +kernel
theorem dX10_lean_16 : decode cX10_lean 16 = .ok (.iload_n 1, 1) := by decide +kernel
theorem dX10_lean_17 : decode cX10_lean 17 = .ok (.iload_n 2, 1) := by decide +kernel
theorem dX10_lean_18 : decode cX10_lean 18 = .ok (.if_icmp .ne 5, 3) := by decide +kernel
theorem dX10_lean_21 : decode cX10_lean 21 = .ok (.iconst (-1), 1) := by decide +kernel
theorem dX10_lean_22 : decode cX10_lean 22 = .ok (.ireturn, 1) := by decide +kernel
theorem dX10_lean_23 : decode cX10_lean 23 = .ok (.iconst 0, 1) := by decide +kernel
theorem dX10_lean_24 : decode cX10_lean 24 = .ok (.istore_n 3, 1) := by decide +kernel
theorem dX10_lean_25 : decode cX10_lean 25 = .ok (.iload_n 3, 1) := by decide +kernel
theorem dX10_lean_26 : decode cX10_lean 26 = .ok (.aload_n 0, 1) := by decide +kernel
theorem dX10_lean_27 : decode cX10_lean 27 = .ok (.getfield 16, 3) := by decide +kernel
theorem dX10_lean_30 : decode cX10_lean 30 = .ok (.iload_n 1, 1) := by decide +kernel
theorem dX10_lean_31 : decode cX10_lean 31 = .ok (.iaload, 1) := by decide +kernel
theorem dX10_lean_32 : decode cX10_lean 32 = .ok (.if_icmp .ge 25, 3) := by decide +kernel
theorem dX10_lean_35 : decode cX10_lean 35 = .ok (.aload_n 0, 1) := by decide +kernel
theorem dX10_lean_36 : decode cX10_lean 36 = .ok (.getfield 13, 3) := by decide +kernel
theorem dX10_lean_39 : decode cX10_lean 39 = .ok (.iconst 4, 1) := by decide +kernel
theorem dX10_lean_40 : decode cX10_lean 40 = .ok (.iload_n 1, 1) := by decide +kernel
theorem dX10_lean_41 : decode cX10_lean 41 = .ok (.imul, 1) := by decide +kernel
theorem dX10_lean_42 : decode cX10_lean 42 = .ok (.iload_n 3, 1) := by decide +kernel
theorem dX10_lean_43 : decode cX10_lean 43 = .ok (.iadd, 1) := by decide +kernel
theorem dX10_lean_44 : decode cX10_lean 44 = .ok (.iaload, 1) := by decide +kernel
theorem dX10_lean_45 : decode cX10_lean 45 = .ok (.iload_n 2, 1) := by decide +kernel
theorem dX10_lean_46 : decode cX10_lean 46 = .ok (.if_icmp .ne 5, 3) := by decide +kernel
theorem dX10_lean_49 : decode cX10_lean 49 = .ok (.iconst (-1), 1) := by decide +kernel
theorem dX10_lean_50 : decode cX10_lean 50 = .ok (.ireturn, 1) := by decide +kernel
theorem dX10_lean_51 : decode cX10_lean 51 = .ok (.iinc 3 1, 3) := by decide +kernel
theorem dX10_lean_54 : decode cX10_lean 54 = .ok (.goto (-29), 3) := by decide +kernel
theorem dX10_lean_57 : decode cX10_lean 57 = .ok (.aload_n 0, 1) := by decide +kernel
theorem dX10_lean_58 : decode cX10_lean 58 = .ok (.iload_n 2, 1) := by decide +kernel
theorem dX10_lean_59 : decode cX10_lean 59 = .ok (.iload_n 1, 1) := by decide +kernel
theorem dX10_lean_60 : decode cX10_lean 60 = .ok (.invokevirtual 127, 3) := by decide +kernel
theorem dX10_lean_63 : decode cX10_lean 63 = .ok (.ifCond .eq 6, 3) := by decide +kernel
theorem dX10_lean_66 : decode cX10_lean 66 = .ok (.bipush (-3), 2) := by decide +kernel
theorem dX10_lean_68 : decode cX10_lean 68 = .ok (.ireturn, 1) := by decide +kernel
theorem dX10_lean_69 : decode cX10_lean 69 = .ok (.aload_n 0, 1) := by decide +kernel
theorem dX10_lean_70 : decode cX10_lean 70 = .ok (.getfield 16, 3) := by decide +kernel
theorem dX10_lean_73 : decode cX10_lean 73 = .ok (.iload_n 1, 1) := by decide +kernel
theorem dX10_lean_74 : decode cX10_lean 74 = .ok (.iaload, 1) := by decide +kernel
theorem dX10_lean_75 : decode cX10_lean 75 = .ok (.iconst 4, 1) := by decide +kernel
theorem dX10_lean_76 : decode cX10_lean 76 = .ok (.if_icmp .ne 6, 3) := by decide +kernel
theorem dX10_lean_79 : decode cX10_lean 79 = .ok (.bipush (-2), 2) := by decide +kernel
theorem dX10_lean_81 : decode cX10_lean 81 = .ok (.ireturn, 1) := by decide +kernel
theorem dX10_lean_82 : decode cX10_lean 82 = .ok (.aload_n 0, 1) := by decide +kernel
theorem dX10_lean_83 : decode cX10_lean 83 = .ok (.getfield 13, 3) := by decide +kernel
theorem dX10_lean_86 : decode cX10_lean 86 = .ok (.iconst 4, 1) := by decide +kernel
theorem dX10_lean_87 : decode cX10_lean 87 = .ok (.iload_n 1, 1) := by decide +kernel
theorem dX10_lean_88 : decode cX10_lean 88 = .ok (.imul, 1) := by decide +kernel
theorem dX10_lean_89 : decode cX10_lean 89 = .ok (.aload_n 0, 1) := by decide +kernel
theorem dX10_lean_90 : decode cX10_lean 90 = .ok (.getfield 16, 3) := by decide +kernel
theorem dX10_lean_93 : decode cX10_lean 93 = .ok (.iload_n 1, 1) := by decide +kernel
theorem dX10_lean_94 : decode cX10_lean 94 = .ok (.iaload, 1) := by decide +kernel
theorem dX10_lean_95 : decode cX10_lean 95 = .ok (.iadd, 1) := by decide +kernel
theorem dX10_lean_96 : decode cX10_lean 96 = .ok (.iload_n 2, 1) := by decide +kernel
theorem dX10_lean_97 : decode cX10_lean 97 = .ok (.iastore, 1) := by decide +kernel
theorem dX10_lean_98 : decode cX10_lean 98 = .ok (.aload_n 0, 1) := by decide +kernel
theorem dX10_lean_99 : decode cX10_lean 99 = .ok (.getfield 16, 3) := by decide +kernel
theorem dX10_lean_102 : decode cX10_lean 102 = .ok (.iload_n 1, 1) := by decide +kernel
theorem dX10_lean_103 : decode cX10_lean 103 = .ok (.dup2, 1) := by decide +kernel
theorem dX10_lean_104 : decode cX10_lean 104 = .ok (.iaload, 1) := by decide +kernel
theorem dX10_lean_105 : decode cX10_lean 105 = .ok (.iconst 1, 1) := by decide +kernel
theorem dX10_lean_106 : decode cX10_lean 106 = .ok (.iadd, 1) := by decide +kernel
theorem dX10_lean_107 : decode cX10_lean 107 = .ok (.iastore, 1) := by decide +kernel
theorem dX10_lean_108 : decode cX10_lean 108 = .ok (.aload_n 0, 1) := by decide +kernel
theorem dX10_lean_109 : decode cX10_lean 109 = .ok (.getfield 16, 3) := by decide +kernel
theorem dX10_lean_112 : decode cX10_lean 112 = .ok (.iload_n 1, 1) := by decide +kernel
theorem dX10_lean_113 : decode cX10_lean 113 = .ok (.iaload, 1) := by decide +kernel
theorem dX10_lean_114 : decode cX10_lean 114 = .ok (.ireturn, 1) := by decide +kernel
theorem dX10_rule_0 : decode cX10_rule 0 = .ok (.iload_n 1, 1) := by decide +kernel
theorem dX10_rule_1 : decode cX10_rule 1 = .ok (.iconst 0, 1) := by decide +kernel
theorem dX10_rule_2 : decode cX10_rule 2 = .ok (.iconst 2, 1) := by decide +kernel
theorem dX10_rule_3 : decode cX10_rule 3 = .ok (.invokestatic 123, 3) := by decide +kernel
theorem dX10_rule_6 : decode cX10_rule 6 = .ok (.ifCond .ne 5, 3) := by decide +kernel
theorem dX10_rule_9 : decode cX10_rule 9 = .ok (.iconst (-1), 1) := by decide +kernel
theorem dX10_rule_10 : decode cX10_rule 10 = .ok (.ireturn, 1) := by decide +kernel
theorem dX10_rule_11 : decode cX10_rule 11 = .ok (.aload_n 0, 1) := by decide +kernel
theorem dX10_rule_12 : decode cX10_rule 12 = .ok (.getfield 131, 3) := by decide +kernel
theorem dX10_rule_15 : decode cX10_rule 15 = .ok (.istore_n 2, 1) := by decide +kernel
theorem dX10_rule_16 : decode cX10_rule 16 = .ok (.aload_n 0, 1) := by decide +kernel
theorem dX10_rule_17 : decode cX10_rule 17 = .ok (.iload_n 1, 1) := by decide +kernel
theorem dX10_rule_18 : decode cX10_rule 18 = .ok (.putfield 131, 3) := by decide +kernel
theorem dX10_rule_21 : decode cX10_rule 21 = .ok (.iload_n 2, 1) := by decide +kernel
theorem dX10_rule_22 : decode cX10_rule 22 = .ok (.ireturn, 1) := by decide +kernel
theorem dX10_table_0 : decode cX10_table 0 = .ok (.iload_n 1, 1) := by decide +kernel
theorem dX10_table_1 : decode cX10_table 1 = .ok (.iconst 0, 1) := by decide +kernel
theorem dX10_table_2 : decode cX10_table 2 = .ok (.iconst 3, 1) := by decide +kernel
theorem dX10_table_3 : decode cX10_table 3 = .ok (.invokestatic 123, 3) := by decide +kernel
theorem dX10_table_6 : decode cX10_table 6 = .ok (.ifCond .eq 13, 3) := by decide +kernel
theorem dX10_table_9 : decode cX10_table 9 = .ok (.iload_n 2, 1) := by decide +kernel
theorem dX10_table_10 : decode cX10_table 10 = .ok (.iconst 1, 1) := by decide +kernel
theorem dX10_table_11 : decode cX10_table 11 = .ok (.ldc 134, 2) := by decide +kernel
theorem dX10_table_13 : decode cX10_table 13 = .ok (.invokestatic 123, 3) := by decide +kernel
theorem dX10_table_16 : decode cX10_table 16 = .ok (.ifCond .ne 5, 3) := by decide +kernel
theorem dX10_table_19 : decode cX10_table 19 = .ok (.iconst (-1), 1) := by decide +kernel
theorem dX10_table_20 : decode cX10_table 20 = .ok (.ireturn, 1) := by decide +kernel
theorem dX10_table_21 : decode cX10_table 21 = .ok (.aload_n 0, 1) := by decide +kernel
theorem dX10_table_22 : decode cX10_table 22 = .ok (.getfield 19, 3) := by decide +kernel
theorem dX10_table_25 : decode cX10_table 25 = .ok (.iload_n 1, 1) := by decide +kernel
theorem dX10_table_26 : decode cX10_table 26 = .ok (.iaload, 1) := by decide +kernel
theorem dX10_table_27 : decode cX10_table 27 = .ok (.istore_n 3, 1) := by decide +kernel
theorem dX10_table_28 : decode cX10_table 28 = .ok (.aload_n 0, 1) := by decide +kernel
theorem dX10_table_29 : decode cX10_table 29 = .ok (.getfield 19, 3) := by decide +kernel
theorem dX10_table_32 : decode cX10_table 32 = .ok (.iload_n 1, 1) := by decide +kernel
theorem dX10_table_33 : decode cX10_table 33 = .ok (.iload_n 2, 1) := by decide +kernel
theorem dX10_table_34 : decode cX10_table 34 = .ok (.iastore, 1) := by decide +kernel
theorem dX10_table_35 : decode cX10_table 35 = .ok (.iload_n 3, 1) := by decide +kernel
theorem dX10_table_36 : decode cX10_table 36 = .ok (.ireturn, 1) := by decide +kernel
theorem dX10_most_0 : decode cX10_most 0 = .ok (.iload_n 1, 1) := by decide +kernel
theorem dX10_most_1 : decode cX10_most 1 = .ok (.iconst 0, 1) := by decide +kernel
theorem dX10_most_2 : decode cX10_most 2 = .ok (.sipush 400, 3) := by decide +kernel
theorem dX10_most_5 : decode cX10_most 5 = .ok (.invokestatic 123, 3) := by decide +kernel
theorem dX10_most_8 : decode cX10_most 8 = .ok (.ifCond .eq 13, 3) := by decide +kernel
theorem dX10_most_11 : decode cX10_most 11 = .ok (.iload_n 2, 1) := by decide +kernel
theorem dX10_most_12 : decode cX10_most 12 = .ok (.iconst 0, 1) := by decide +kernel
theorem dX10_most_13 : decode cX10_most 13 = .ok (.bipush 100, 2) := by decide +kernel
theorem dX10_most_15 : decode cX10_most 15 = .ok (.invokestatic 123, 3) := by decide +kernel
theorem dX10_most_18 : decode cX10_most 18 = .ok (.ifCond .ne 5, 3) := by decide +kernel
theorem dX10_most_21 : decode cX10_most 21 = .ok (.iconst (-1), 1) := by decide +kernel
theorem dX10_most_22 : decode cX10_most 22 = .ok (.ireturn, 1) := by decide +kernel
theorem dX10_most_23 : decode cX10_most 23 = .ok (.aload_n 0, 1) := by decide +kernel
theorem dX10_most_24 : decode cX10_most 24 = .ok (.iload_n 1, 1) := by decide +kernel
theorem dX10_most_25 : decode cX10_most 25 = .ok (.putfield 22, 3) := by decide +kernel
theorem dX10_most_28 : decode cX10_most 28 = .ok (.aload_n 0, 1) := by decide +kernel
theorem dX10_most_29 : decode cX10_most 29 = .ok (.iload_n 2, 1) := by decide +kernel
theorem dX10_most_30 : decode cX10_most 30 = .ok (.putfield 26, 3) := by decide +kernel
theorem dX10_most_33 : decode cX10_most 33 = .ok (.iconst 1, 1) := by decide +kernel
theorem dX10_most_34 : decode cX10_most 34 = .ok (.ireturn, 1) := by decide +kernel
theorem dX10_take_0 : decode cX10_take 0 = .ok (.aload_n 0, 1) := by decide +kernel
theorem dX10_take_1 : decode cX10_take 1 = .ok (.aload_n 0, 1) := by decide +kernel
theorem dX10_take_2 : decode cX10_take 2 = .ok (.getfield 45, 3) := by decide +kernel
theorem dX10_take_5 : decode cX10_take 5 = .ok (.iload_n 1, 1) := by decide +kernel
theorem dX10_take_6 : decode cX10_take 6 = .ok (.iaload, 1) := by decide +kernel
theorem dX10_take_7 : decode cX10_take 7 = .ok (.putfield 135, 3) := by decide +kernel
theorem dX10_take_10 : decode cX10_take 10 = .ok (.aload_n 0, 1) := by decide +kernel
theorem dX10_take_11 : decode cX10_take 11 = .ok (.aload_n 0, 1) := by decide +kernel
theorem dX10_take_12 : decode cX10_take 12 = .ok (.getfield 48, 3) := by decide +kernel
theorem dX10_take_15 : decode cX10_take 15 = .ok (.iload_n 1, 1) := by decide +kernel
theorem dX10_take_16 : decode cX10_take 16 = .ok (.iaload, 1) := by decide +kernel
theorem dX10_take_17 : decode cX10_take 17 = .ok (.putfield 138, 3) := by decide +kernel
theorem dX10_take_20 : decode cX10_take 20 = .ok (.aload_n 0, 1) := by decide +kernel
theorem dX10_take_21 : decode cX10_take 21 = .ok (.aload_n 0, 1) := by decide +kernel
theorem dX10_take_22 : decode cX10_take 22 = .ok (.getfield 51, 3) := by decide +kernel
theorem dX10_take_25 : decode cX10_take 25 = .ok (.iload_n 1, 1) := by decide +kernel
theorem dX10_take_26 : decode cX10_take 26 = .ok (.iaload, 1) := by decide +kernel
theorem dX10_take_27 : decode cX10_take 27 = .ok (.putfield 141, 3) := by decide +kernel
theorem dX10_take_30 : decode cX10_take 30 = .ok (.aload_n 0, 1) := by decide +kernel
theorem dX10_take_31 : decode cX10_take 31 = .ok (.aload_n 0, 1) := by decide +kernel
theorem dX10_take_32 : decode cX10_take 32 = .ok (.getfield 54, 3) := by decide +kernel
theorem dX10_take_35 : decode cX10_take 35 = .ok (.iload_n 1, 1) := by decide +kernel
theorem dX10_take_36 : decode cX10_take 36 = .ok (.iaload, 1) := by decide +kernel
theorem dX10_take_37 : decode cX10_take 37 = .ok (.putfield 144, 3) := by decide +kernel
theorem dX10_take_40 : decode cX10_take 40 = .ok (.aload_n 0, 1) := by decide +kernel
theorem dX10_take_41 : decode cX10_take 41 = .ok (.aload_n 0, 1) := by decide +kernel
theorem dX10_take_42 : decode cX10_take 42 = .ok (.getfield 57, 3) := by decide +kernel
theorem dX10_take_45 : decode cX10_take 45 = .ok (.iload_n 1, 1) := by decide +kernel
theorem dX10_take_46 : decode cX10_take 46 = .ok (.iaload, 1) := by decide +kernel
theorem dX10_take_47 : decode cX10_take 47 = .ok (.putfield 147, 3) := by decide +kernel
theorem dX10_take_50 : decode cX10_take 50 = .ok (.return_, 1) := by decide +kernel
theorem dX10_begin_0 : decode cX10_begin 0 = .ok (.aload_n 0, 1) := by decide +kernel
theorem dX10_begin_1 : decode cX10_begin 1 = .ok (.iconst 0, 1) := by decide +kernel
theorem dX10_begin_2 : decode cX10_begin 2 = .ok (.putfield 135, 3) := by decide +kernel
theorem dX10_begin_5 : decode cX10_begin 5 = .ok (.aload_n 0, 1) := by decide +kernel
theorem dX10_begin_6 : decode cX10_begin 6 = .ok (.sipush 2500, 3) := by decide +kernel
theorem dX10_begin_9 : decode cX10_begin 9 = .ok (.putfield 138, 3) := by decide +kernel
theorem dX10_begin_12 : decode cX10_begin 12 = .ok (.aload_n 0, 1) := by decide +kernel
theorem dX10_begin_13 : decode cX10_begin 13 = .ok (.iconst 0, 1) := by decide +kernel
theorem dX10_begin_14 : decode cX10_begin 14 = .ok (.putfield 141, 3) := by decide +kernel
theorem dX10_begin_17 : decode cX10_begin 17 = .ok (.aload_n 0, 1) := by decide +kernel
theorem dX10_begin_18 : decode cX10_begin 18 = .ok (.iconst (-1), 1) := by decide +kernel
theorem dX10_begin_19 : decode cX10_begin 19 = .ok (.putfield 144, 3) := by decide +kernel
theorem dX10_begin_22 : decode cX10_begin 22 = .ok (.aload_n 0, 1) := by decide +kernel
theorem dX10_begin_23 : decode cX10_begin 23 = .ok (.iconst 0, 1) := by decide +kernel
theorem dX10_begin_24 : decode cX10_begin 24 = .ok (.putfield 147, 3) := by decide +kernel
theorem dX10_begin_27 : decode cX10_begin 27 = .ok (.return_, 1) := by decide +kernel
theorem dX10_chance_0 : decode cX10_chance 0 = .ok (.ldc2_w 150, 3) := by decide +kernel
theorem dX10_chance_3 : decode cX10_chance 3 = .ok (.iload_n 1, 1) := by decide +kernel
theorem dX10_chance_4 : decode cX10_chance 4 = .ok (.aload_n 0, 1) := by decide +kernel
theorem dX10_chance_5 : decode cX10_chance 5 = .ok (.getfield 144, 3) := by decide +kernel
theorem dX10_chance_8 : decode cX10_chance 8 = .ok (.isub, 1) := by decide +kernel
theorem dX10_chance_9 : decode cX10_chance 9 = .ok (.i2l, 1) := by decide +kernel
theorem dX10_chance_10 : decode cX10_chance 10 = .ok (.lmul, 1) := by decide +kernel
theorem dX10_chance_11 : decode cX10_chance 11 = .ok (.aload_n 0, 1) := by decide +kernel
theorem dX10_chance_12 : decode cX10_chance 12 = .ok (.getfield 135, 3) := by decide +kernel
theorem dX10_chance_15 : decode cX10_chance 15 = .ok (.i2l, 1) := by decide +kernel
theorem dX10_chance_16 : decode cX10_chance 16 = .ok (.ldiv, 1) := by decide +kernel
theorem dX10_chance_17 : decode cX10_chance 17 = .ok (.lstore_n 2, 1) := by decide +kernel
theorem dX10_chance_18 : decode cX10_chance 18 = .ok (.sipush 1000, 3) := by decide +kernel
theorem dX10_chance_21 : decode cX10_chance 21 = .ok (.istore 4, 2) := by decide +kernel
theorem dX10_chance_23 : decode cX10_chance 23 = .ok (.lconst 0, 1) := by decide +kernel
theorem dX10_chance_24 : decode cX10_chance 24 = .ok (.lstore 5, 2) := by decide +kernel
theorem dX10_chance_26 : decode cX10_chance 26 = .ok (.lload 5, 2) := by decide +kernel
theorem dX10_chance_28 : decode cX10_chance 28 = .ok (.lload_n 2, 1) := by decide +kernel
theorem dX10_chance_29 : decode cX10_chance 29 = .ok (.lcmp, 1) := by decide +kernel
theorem dX10_chance_30 : decode cX10_chance 30 = .ok (.ifCond .ge 29, 3) := by decide +kernel
theorem dX10_chance_33 : decode cX10_chance 33 = .ok (.iload 4, 2) := by decide +kernel
theorem dX10_chance_35 : decode cX10_chance 35 = .ok (.ifCond .le 24, 3) := by decide +kernel
theorem dX10_chance_38 : decode cX10_chance 38 = .ok (.iload 4, 2) := by decide +kernel
theorem dX10_chance_40 : decode cX10_chance 40 = .ok (.sipush 9934, 3) := by decide +kernel
theorem dX10_chance_43 : decode cX10_chance 43 = .ok (.imul, 1) := by decide +kernel
theorem dX10_chance_44 : decode cX10_chance 44 = .ok (.sipush 10000, 3) := by decide +kernel
theorem dX10_chance_47 : decode cX10_chance 47 = .ok (.idiv, 1) := by decide +kernel
theorem dX10_chance_48 : decode cX10_chance 48 = .ok (.istore 4, 2) := by decide +kernel
theorem dX10_chance_50 : decode cX10_chance 50 = .ok (.lload 5, 2) := by decide +kernel
theorem dX10_chance_52 : decode cX10_chance 52 = .ok (.lconst 1, 1) := by decide +kernel
theorem dX10_chance_53 : decode cX10_chance 53 = .ok (.ladd, 1) := by decide +kernel
theorem dX10_chance_54 : decode cX10_chance 54 = .ok (.lstore 5, 2) := by decide +kernel
theorem dX10_chance_56 : decode cX10_chance 56 = .ok (.goto (-30), 3) := by decide +kernel
theorem dX10_chance_59 : decode cX10_chance 59 = .ok (.iload 4, 2) := by decide +kernel
theorem dX10_chance_61 : decode cX10_chance 61 = .ok (.ireturn, 1) := by decide +kernel
theorem dX10_kept_0 : decode cX10_kept 0 = .ok (.lload_n 0, 1) := by decide +kernel
theorem dX10_kept_1 : decode cX10_kept 1 = .ok (.lload_n 2, 1) := by decide +kernel
theorem dX10_kept_2 : decode cX10_kept 2 = .ok (.lcmp, 1) := by decide +kernel
theorem dX10_kept_3 : decode cX10_kept 3 = .ok (.ifCond .ge 7, 3) := by decide +kernel
theorem dX10_kept_6 : decode cX10_kept 6 = .ok (.lload_n 2, 1) := by decide +kernel
theorem dX10_kept_7 : decode cX10_kept 7 = .ok (.goto 16, 3) := by decide +kernel
theorem dX10_kept_10 : decode cX10_kept 10 = .ok (.lload_n 0, 1) := by decide +kernel
theorem dX10_kept_11 : decode cX10_kept 11 = .ok (.lload 4, 2) := by decide +kernel
theorem dX10_kept_13 : decode cX10_kept 13 = .ok (.lcmp, 1) := by decide +kernel
theorem dX10_kept_14 : decode cX10_kept 14 = .ok (.ifCond .le 8, 3) := by decide +kernel
theorem dX10_kept_17 : decode cX10_kept 17 = .ok (.lload 4, 2) := by decide +kernel
theorem dX10_kept_19 : decode cX10_kept 19 = .ok (.goto 4, 3) := by decide +kernel
theorem dX10_kept_22 : decode cX10_kept 22 = .ok (.lload_n 0, 1) := by decide +kernel
theorem dX10_kept_23 : decode cX10_kept 23 = .ok (.lreturn, 1) := by decide +kernel
theorem dX10_byStrengths_0 : decode cX10_byStrengths 0 = .ok (.aload_n 0, 1) := by decide +kernel
theorem dX10_byStrengths_1 : decode cX10_byStrengths 1 = .ok (.getfield 135, 3) := by decide +kernel
theorem dX10_byStrengths_4 : decode cX10_byStrengths 4 = .ok (.i2l, 1) := by decide +kernel
theorem dX10_byStrengths_5 : decode cX10_byStrengths 5 = .ok (.lstore_n 3, 1) := by decide +kernel
theorem dX10_byStrengths_6 : decode cX10_byStrengths 6 = .ok (.aload_n 0, 1) := by decide +kernel
theorem dX10_byStrengths_7 : decode cX10_byStrengths 7 = .ok (.getfield 138, 3) := by decide +kernel
theorem dX10_byStrengths_10 : decode cX10_byStrengths 10 = .ok (.istore 5, 2) := by decide +kernel
theorem dX10_byStrengths_12 : decode cX10_byStrengths 12 = .ok (.iload_n 1, 1) := by decide +kernel
theorem dX10_byStrengths_13 : decode cX10_byStrengths 13 = .ok (.ifCond .ne 18, 3) := by decide +kernel
theorem dX10_byStrengths_16 : decode cX10_byStrengths 16 = .ok (.lload_n 3, 1) := by decide +kernel
theorem dX10_byStrengths_17 : decode cX10_byStrengths 17 = .ok (.ldc2_w 170, 3) := by decide +kernel
theorem dX10_byStrengths_20 : decode cX10_byStrengths 20 = .ok (.ldiv, 1) := by decide +kernel
theorem dX10_byStrengths_21 : decode cX10_byStrengths 21 = .ok (.lstore_n 3, 1) := by decide +kernel
theorem dX10_byStrengths_22 : decode cX10_byStrengths 22 = .ok (.iinc 5 (-200), 6) := by decide +kernel
theorem dX10_byStrengths_28 : decode cX10_byStrengths 28 = .ok (.goto 84, 3) := by decide +kernel
theorem dX10_byStrengths_31 : decode cX10_byStrengths 31 = .ok (.iload_n 1, 1) := by decide +kernel
theorem dX10_byStrengths_32 : decode cX10_byStrengths 32 = .ok (.iconst 1, 1) := by decide +kernel
theorem dX10_byStrengths_33 : decode cX10_byStrengths 33 = .ok (.if_icmp .ne 29, 3) := by decide +kernel
theorem dX10_byStrengths_36 : decode cX10_byStrengths 36 = .ok (.lload_n 3, 1) := by decide +kernel
theorem dX10_byStrengths_37 : decode cX10_byStrengths 37 = .ok (.sipush 1000, 3) := by decide +kernel
theorem dX10_byStrengths_40 : decode cX10_byStrengths 40 = .ok (.sipush 1200, 3) := by decide +kernel
theorem dX10_byStrengths_43 : decode cX10_byStrengths 43 = .ok (.iload_n 2, 1) := by decide +kernel
theorem dX10_byStrengths_44 : decode cX10_byStrengths 44 = .ok (.isub, 1) := by decide +kernel
theorem dX10_byStrengths_45 : decode cX10_byStrengths 45 = .ok (.iadd, 1) := by decide +kernel
theorem dX10_byStrengths_46 : decode cX10_byStrengths 46 = .ok (.i2l, 1) := by decide +kernel
theorem dX10_byStrengths_47 : decode cX10_byStrengths 47 = .ok (.lmul, 1) := by decide +kernel
theorem dX10_byStrengths_48 : decode cX10_byStrengths 48 = .ok (.ldc2_w 152, 3) := by decide +kernel
theorem dX10_byStrengths_51 : decode cX10_byStrengths 51 = .ok (.ldiv, 1) := by decide +kernel
theorem dX10_byStrengths_52 : decode cX10_byStrengths 52 = .ok (.lstore_n 3, 1) := by decide +kernel
theorem dX10_byStrengths_53 : decode cX10_byStrengths 53 = .ok (.iinc 5 (-150), 6) := by decide +kernel
theorem dX10_byStrengths_59 : decode cX10_byStrengths 59 = .ok (.goto 53, 3) := by decide +kernel
theorem dX10_byStrengths_62 : decode cX10_byStrengths 62 = .ok (.lload_n 3, 1) := by decide +kernel
theorem dX10_byStrengths_63 : decode cX10_byStrengths 63 = .ok (.ldc2_w 152, 3) := by decide +kernel
theorem dX10_byStrengths_66 : decode cX10_byStrengths 66 = .ok (.iload 5, 2) := by decide +kernel
theorem dX10_byStrengths_68 : decode cX10_byStrengths 68 = .ok (.i2l, 1) := by decide +kernel
theorem dX10_byStrengths_69 : decode cX10_byStrengths 69 = .ok (.ldc2_w 152, 3) := by decide +kernel
theorem dX10_byStrengths_72 : decode cX10_byStrengths 72 = .ok (.lsub, 1) := by decide +kernel
theorem dX10_byStrengths_73 : decode cX10_byStrengths 73 = .ok (.sipush 1900, 3) := by decide +kernel
theorem dX10_byStrengths_76 : decode cX10_byStrengths 76 = .ok (.iload_n 2, 1) := by decide +kernel
theorem dX10_byStrengths_77 : decode cX10_byStrengths 77 = .ok (.isub, 1) := by decide +kernel
theorem dX10_byStrengths_78 : decode cX10_byStrengths 78 = .ok (.i2l, 1) := by decide +kernel
theorem dX10_byStrengths_79 : decode cX10_byStrengths 79 = .ok (.lmul, 1) := by decide +kernel
theorem dX10_byStrengths_80 : decode cX10_byStrengths 80 = .ok (.ldc2_w 152, 3) := by decide +kernel
theorem dX10_byStrengths_83 : decode cX10_byStrengths 83 = .ok (.ldiv, 1) := by decide +kernel
theorem dX10_byStrengths_84 : decode cX10_byStrengths 84 = .ok (.ladd, 1) := by decide +kernel
theorem dX10_byStrengths_85 : decode cX10_byStrengths 85 = .ok (.lmul, 1) := by decide +kernel
theorem dX10_byStrengths_86 : decode cX10_byStrengths 86 = .ok (.ldc2_w 152, 3) := by decide +kernel
theorem dX10_byStrengths_89 : decode cX10_byStrengths 89 = .ok (.ldiv, 1) := by decide +kernel
theorem dX10_byStrengths_90 : decode cX10_byStrengths 90 = .ok (.lstore_n 3, 1) := by decide +kernel
theorem dX10_byStrengths_91 : decode cX10_byStrengths 91 = .ok (.iload_n 1, 1) := by decide +kernel
theorem dX10_byStrengths_92 : decode cX10_byStrengths 92 = .ok (.iconst 3, 1) := by decide +kernel
theorem dX10_byStrengths_93 : decode cX10_byStrengths 93 = .ok (.if_icmp .ne 19, 3) := by decide +kernel
theorem dX10_byStrengths_96 : decode cX10_byStrengths 96 = .ok (.lload_n 3, 1) := by decide +kernel
theorem dX10_byStrengths_97 : decode cX10_byStrengths 97 = .ok (.ldc2_w 172, 3) := by decide +kernel
theorem dX10_byStrengths_100 : decode cX10_byStrengths 100 = .ok (.lmul, 1) := by decide +kernel
theorem dX10_byStrengths_101 : decode cX10_byStrengths 101 = .ok (.ldc2_w 152, 3) := by decide +kernel
theorem dX10_byStrengths_104 : decode cX10_byStrengths 104 = .ok (.ldiv, 1) := by decide +kernel
theorem dX10_byStrengths_105 : decode cX10_byStrengths 105 = .ok (.lstore_n 3, 1) := by decide +kernel
theorem dX10_byStrengths_106 : decode cX10_byStrengths 106 = .ok (.iinc 5 150, 6) := by decide +kernel
theorem dX10_byStrengths_112 : decode cX10_byStrengths 112 = .ok (.aload_n 0, 1) := by decide +kernel
theorem dX10_byStrengths_113 : decode cX10_byStrengths 113 = .ok (.lload_n 3, 1) := by decide +kernel
theorem dX10_byStrengths_114 : decode cX10_byStrengths 114 = .ok (.ldc2_w 154, 3) := by decide +kernel
theorem dX10_byStrengths_117 : decode cX10_byStrengths 117 = .ok (.ldc2_w 156, 3) := by decide +kernel
theorem dX10_byStrengths_120 : decode cX10_byStrengths 120 = .ok (.invokestatic 158, 3) := by decide +kernel
theorem dX10_byStrengths_123 : decode cX10_byStrengths 123 = .ok (.l2i, 1) := by decide +kernel
theorem dX10_byStrengths_124 : decode cX10_byStrengths 124 = .ok (.putfield 135, 3) := by decide +kernel
theorem dX10_byStrengths_127 : decode cX10_byStrengths 127 = .ok (.aload_n 0, 1) := by decide +kernel
theorem dX10_byStrengths_128 : decode cX10_byStrengths 128 = .ok (.iload 5, 2) := by decide +kernel
theorem dX10_byStrengths_130 : decode cX10_byStrengths 130 = .ok (.i2l, 1) := by decide +kernel
theorem dX10_byStrengths_131 : decode cX10_byStrengths 131 = .ok (.ldc2_w 172, 3) := by decide +kernel
theorem dX10_byStrengths_134 : decode cX10_byStrengths 134 = .ok (.ldc2_w 174, 3) := by decide +kernel
theorem dX10_byStrengths_137 : decode cX10_byStrengths 137 = .ok (.invokestatic 158, 3) := by decide +kernel
theorem dX10_byStrengths_140 : decode cX10_byStrengths 140 = .ok (.l2i, 1) := by decide +kernel
theorem dX10_byStrengths_141 : decode cX10_byStrengths 141 = .ok (.putfield 138, 3) := by decide +kernel
theorem dX10_byStrengths_144 : decode cX10_byStrengths 144 = .ok (.return_, 1) := by decide +kernel
theorem dX10_answerBy_0 : decode cX10_answerBy 0 = .ok (.aload_n 0, 1) := by decide +kernel
theorem dX10_answerBy_1 : decode cX10_answerBy 1 = .ok (.getfield 135, 3) := by decide +kernel
theorem dX10_answerBy_4 : decode cX10_answerBy 4 = .ok (.ifCond .ne 7, 3) := by decide +kernel
theorem dX10_answerBy_7 : decode cX10_answerBy 7 = .ok (.iconst 1, 1) := by decide +kernel
theorem dX10_answerBy_8 : decode cX10_answerBy 8 = .ok (.goto 4, 3) := by decide +kernel
theorem dX10_answerBy_11 : decode cX10_answerBy 11 = .ok (.iconst 0, 1) := by decide +kernel
theorem dX10_answerBy_12 : decode cX10_answerBy 12 = .ok (.istore 5, 2) := by decide +kernel
theorem dX10_answerBy_14 : decode cX10_answerBy 14 = .ok (.iload_n 3, 1) := by decide +kernel
theorem dX10_answerBy_15 : decode cX10_answerBy 15 = .ok (.ifCond .ne 9, 3) := by decide +kernel
theorem dX10_answerBy_18 : decode cX10_answerBy 18 = .ok (.sipush 500, 3) := by decide +kernel
theorem dX10_answerBy_21 : decode cX10_answerBy 21 = .ok (.goto 28, 3) := by decide +kernel
theorem dX10_answerBy_24 : decode cX10_answerBy 24 = .ok (.iload_n 3, 1) := by decide +kernel
theorem dX10_answerBy_25 : decode cX10_answerBy 25 = .ok (.iconst 1, 1) := by decide +kernel
theorem dX10_answerBy_26 : decode cX10_answerBy 26 = .ok (.if_icmp .ne 9, 3) := by decide +kernel
theorem dX10_answerBy_29 : decode cX10_answerBy 29 = .ok (.sipush 1000, 3) := by decide +kernel
theorem dX10_answerBy_32 : decode cX10_answerBy 32 = .ok (.goto 17, 3) := by decide +kernel
theorem dX10_answerBy_35 : decode cX10_answerBy 35 = .ok (.iload_n 3, 1) := by decide +kernel
theorem dX10_answerBy_36 : decode cX10_answerBy 36 = .ok (.iconst 3, 1) := by decide +kernel
theorem dX10_answerBy_37 : decode cX10_answerBy 37 = .ok (.if_icmp .ne 9, 3) := by decide +kernel
theorem dX10_answerBy_40 : decode cX10_answerBy 40 = .ok (.sipush 6000, 3) := by decide +kernel
theorem dX10_answerBy_43 : decode cX10_answerBy 43 = .ok (.goto 6, 3) := by decide +kernel
theorem dX10_answerBy_46 : decode cX10_answerBy 46 = .ok (.sipush 2500, 3) := by decide +kernel
theorem dX10_answerBy_49 : decode cX10_answerBy 49 = .ok (.istore 6, 2) := by decide +kernel
theorem dX10_answerBy_51 : decode cX10_answerBy 51 = .ok (.iload_n 1, 1) := by decide +kernel
theorem dX10_answerBy_52 : decode cX10_answerBy 52 = .ok (.ifCond .ne 56, 3) := by decide +kernel
theorem dX10_answerBy_55 : decode cX10_answerBy 55 = .ok (.aload_n 0, 1) := by decide +kernel
theorem dX10_answerBy_56 : decode cX10_answerBy 56 = .ok (.iload_n 3, 1) := by decide +kernel
theorem dX10_answerBy_57 : decode cX10_answerBy 57 = .ok (.ifCond .ne 7, 3) := by decide +kernel
theorem dX10_answerBy_60 : decode cX10_answerBy 60 = .ok (.iconst 0, 1) := by decide +kernel
theorem dX10_answerBy_61 : decode cX10_answerBy 61 = .ok (.goto 29, 3) := by decide +kernel
theorem dX10_answerBy_64 : decode cX10_answerBy 64 = .ok (.aload_n 0, 1) := by decide +kernel
theorem dX10_answerBy_65 : decode cX10_answerBy 65 = .ok (.getfield 141, 3) := by decide +kernel
theorem dX10_answerBy_68 : decode cX10_answerBy 68 = .ok (.iload_n 3, 1) := by decide +kernel
theorem dX10_answerBy_69 : decode cX10_answerBy 69 = .ok (.iadd, 1) := by decide +kernel
theorem dX10_answerBy_70 : decode cX10_answerBy 70 = .ok (.iconst 1, 1) := by decide +kernel
theorem dX10_answerBy_71 : decode cX10_answerBy 71 = .ok (.isub, 1) := by decide +kernel
theorem dX10_answerBy_72 : decode cX10_answerBy 72 = .ok (.bipush 9, 2) := by decide +kernel
theorem dX10_answerBy_74 : decode cX10_answerBy 74 = .ok (.if_icmp .le 8, 3) := by decide +kernel
theorem dX10_answerBy_77 : decode cX10_answerBy 77 = .ok (.bipush 9, 2) := by decide +kernel
theorem dX10_answerBy_79 : decode cX10_answerBy 79 = .ok (.goto 11, 3) := by decide +kernel
theorem dX10_answerBy_82 : decode cX10_answerBy 82 = .ok (.aload_n 0, 1) := by decide +kernel
theorem dX10_answerBy_83 : decode cX10_answerBy 83 = .ok (.getfield 141, 3) := by decide +kernel
theorem dX10_answerBy_86 : decode cX10_answerBy 86 = .ok (.iload_n 3, 1) := by decide +kernel
theorem dX10_answerBy_87 : decode cX10_answerBy 87 = .ok (.iadd, 1) := by decide +kernel
theorem dX10_answerBy_88 : decode cX10_answerBy 88 = .ok (.iconst 1, 1) := by decide +kernel
theorem dX10_answerBy_89 : decode cX10_answerBy 89 = .ok (.isub, 1) := by decide +kernel
theorem dX10_answerBy_90 : decode cX10_answerBy 90 = .ok (.putfield 141, 3) := by decide +kernel
theorem dX10_answerBy_93 : decode cX10_answerBy 93 = .ok (.aload_n 0, 1) := by decide +kernel
theorem dX10_answerBy_94 : decode cX10_answerBy 94 = .ok (.sipush 1000, 3) := by decide +kernel
theorem dX10_answerBy_97 : decode cX10_answerBy 97 = .ok (.aload_n 0, 1) := by decide +kernel
theorem dX10_answerBy_98 : decode cX10_answerBy 98 = .ok (.getfield 141, 3) := by decide +kernel
theorem dX10_answerBy_101 : decode cX10_answerBy 101 = .ok (.ishl, 1) := by decide +kernel
theorem dX10_answerBy_102 : decode cX10_answerBy 102 = .ok (.putfield 135, 3) := by decide +kernel
theorem dX10_answerBy_105 : decode cX10_answerBy 105 = .ok (.goto 62, 3) := by decide +kernel
theorem dX10_answerBy_108 : decode cX10_answerBy 108 = .ok (.iload 5, 2) := by decide +kernel
theorem dX10_answerBy_110 : decode cX10_answerBy 110 = .ok (.ifCond .eq 12, 3) := by decide +kernel
theorem dX10_answerBy_113 : decode cX10_answerBy 113 = .ok (.aload_n 0, 1) := by decide +kernel
theorem dX10_answerBy_114 : decode cX10_answerBy 114 = .ok (.iload 6, 2) := by decide +kernel
theorem dX10_answerBy_116 : decode cX10_answerBy 116 = .ok (.putfield 135, 3) := by decide +kernel
theorem dX10_answerBy_119 : decode cX10_answerBy 119 = .ok (.goto 48, 3) := by decide +kernel
theorem dX10_answerBy_122 : decode cX10_answerBy 122 = .ok (.iload_n 1, 1) := by decide +kernel
theorem dX10_answerBy_123 : decode cX10_answerBy 123 = .ok (.iconst 2, 1) := by decide +kernel
theorem dX10_answerBy_124 : decode cX10_answerBy 124 = .ok (.if_icmp .ne 32, 3) := by decide +kernel
theorem dX10_answerBy_127 : decode cX10_answerBy 127 = .ok (.aload_n 0, 1) := by decide +kernel
theorem dX10_answerBy_128 : decode cX10_answerBy 128 = .ok (.aload_n 0, 1) := by decide +kernel
theorem dX10_answerBy_129 : decode cX10_answerBy 129 = .ok (.getfield 135, 3) := by decide +kernel
theorem dX10_answerBy_132 : decode cX10_answerBy 132 = .ok (.i2l, 1) := by decide +kernel
theorem dX10_answerBy_133 : decode cX10_answerBy 133 = .ok (.iload_n 2, 1) := by decide +kernel
theorem dX10_answerBy_134 : decode cX10_answerBy 134 = .ok (.i2l, 1) := by decide +kernel
theorem dX10_answerBy_135 : decode cX10_answerBy 135 = .ok (.lmul, 1) := by decide +kernel
theorem dX10_answerBy_136 : decode cX10_answerBy 136 = .ok (.ldc2_w 152, 3) := by decide +kernel
theorem dX10_answerBy_139 : decode cX10_answerBy 139 = .ok (.ldiv, 1) := by decide +kernel
theorem dX10_answerBy_140 : decode cX10_answerBy 140 = .ok (.ldc2_w 154, 3) := by decide +kernel
theorem dX10_answerBy_143 : decode cX10_answerBy 143 = .ok (.ldc2_w 156, 3) := by decide +kernel
theorem dX10_answerBy_146 : decode cX10_answerBy 146 = .ok (.invokestatic 158, 3) := by decide +kernel
theorem dX10_answerBy_149 : decode cX10_answerBy 149 = .ok (.l2i, 1) := by decide +kernel
theorem dX10_answerBy_150 : decode cX10_answerBy 150 = .ok (.putfield 135, 3) := by decide +kernel
theorem dX10_answerBy_153 : decode cX10_answerBy 153 = .ok (.goto 14, 3) := by decide +kernel
theorem dX10_answerBy_156 : decode cX10_answerBy 156 = .ok (.aload_n 0, 1) := by decide +kernel
theorem dX10_answerBy_157 : decode cX10_answerBy 157 = .ok (.iload_n 3, 1) := by decide +kernel
theorem dX10_answerBy_158 : decode cX10_answerBy 158 = .ok (.aload_n 0, 1) := by decide +kernel
theorem dX10_answerBy_159 : decode cX10_answerBy 159 = .ok (.iload 4, 2) := by decide +kernel
theorem dX10_answerBy_161 : decode cX10_answerBy 161 = .ok (.invokevirtual 162, 3) := by decide +kernel
theorem dX10_answerBy_164 : decode cX10_answerBy 164 = .ok (.invokevirtual 166, 3) := by decide +kernel
theorem dX10_answerBy_167 : decode cX10_answerBy 167 = .ok (.aload_n 0, 1) := by decide +kernel
theorem dX10_answerBy_168 : decode cX10_answerBy 168 = .ok (.iload 4, 2) := by decide +kernel
theorem dX10_answerBy_170 : decode cX10_answerBy 170 = .ok (.putfield 144, 3) := by decide +kernel
theorem dX10_answerBy_173 : decode cX10_answerBy 173 = .ok (.aload_n 0, 1) := by decide +kernel
theorem dX10_answerBy_174 : decode cX10_answerBy 174 = .ok (.dup, 1) := by decide +kernel
theorem dX10_answerBy_175 : decode cX10_answerBy 175 = .ok (.getfield 147, 3) := by decide +kernel
theorem dX10_answerBy_178 : decode cX10_answerBy 178 = .ok (.iload_n 3, 1) := by decide +kernel
theorem dX10_answerBy_179 : decode cX10_answerBy 179 = .ok (.ifCond .ne 7, 3) := by decide +kernel
theorem dX10_answerBy_182 : decode cX10_answerBy 182 = .ok (.iconst 1, 1) := by decide +kernel
theorem dX10_answerBy_183 : decode cX10_answerBy 183 = .ok (.goto 4, 3) := by decide +kernel
theorem dX10_answerBy_186 : decode cX10_answerBy 186 = .ok (.iconst 0, 1) := by decide +kernel
theorem dX10_answerBy_187 : decode cX10_answerBy 187 = .ok (.iadd, 1) := by decide +kernel
theorem dX10_answerBy_188 : decode cX10_answerBy 188 = .ok (.putfield 147, 3) := by decide +kernel
theorem dX10_answerBy_191 : decode cX10_answerBy 191 = .ok (.return_, 1) := by decide +kernel
theorem dX10_isLeech_0 : decode cX10_isLeech 0 = .ok (.aload_n 0, 1) := by decide +kernel
theorem dX10_isLeech_1 : decode cX10_isLeech 1 = .ok (.getfield 147, 3) := by decide +kernel
theorem dX10_isLeech_4 : decode cX10_isLeech 4 = .ok (.bipush 8, 2) := by decide +kernel
theorem dX10_isLeech_6 : decode cX10_isLeech 6 = .ok (.if_icmp .lt 7, 3) := by decide +kernel
theorem dX10_isLeech_9 : decode cX10_isLeech 9 = .ok (.iconst 1, 1) := by decide +kernel
theorem dX10_isLeech_10 : decode cX10_isLeech 10 = .ok (.goto 4, 3) := by decide +kernel
theorem dX10_isLeech_13 : decode cX10_isLeech 13 = .ok (.iconst 0, 1) := by decide +kernel
theorem dX10_isLeech_14 : decode cX10_isLeech 14 = .ok (.ireturn, 1) := by decide +kernel
theorem dX10_isDue_0 : decode cX10_isDue 0 = .ok (.aload_n 0, 1) := by decide +kernel
theorem dX10_isDue_1 : decode cX10_isDue 1 = .ok (.getfield 135, 3) := by decide +kernel
theorem dX10_isDue_4 : decode cX10_isDue 4 = .ok (.ifCond .le 25, 3) := by decide +kernel
theorem dX10_isDue_7 : decode cX10_isDue 7 = .ok (.aload_n 0, 1) := by decide +kernel
theorem dX10_isDue_8 : decode cX10_isDue 8 = .ok (.invokevirtual 176, 3) := by decide +kernel
theorem dX10_isDue_11 : decode cX10_isDue 11 = .ok (.ifCond .ne 18, 3) := by decide +kernel
theorem dX10_isDue_14 : decode cX10_isDue 14 = .ok (.aload_n 0, 1) := by decide +kernel
theorem dX10_isDue_15 : decode cX10_isDue 15 = .ok (.iload_n 1, 1) := by decide +kernel
theorem dX10_isDue_16 : decode cX10_isDue 16 = .ok (.invokevirtual 162, 3) := by decide +kernel
theorem dX10_isDue_19 : decode cX10_isDue 19 = .ok (.sipush 900, 3) := by decide +kernel
theorem dX10_isDue_22 : decode cX10_isDue 22 = .ok (.if_icmp .ge 7, 3) := by decide +kernel
theorem dX10_isDue_25 : decode cX10_isDue 25 = .ok (.iconst 1, 1) := by decide +kernel
theorem dX10_isDue_26 : decode cX10_isDue 26 = .ok (.goto 4, 3) := by decide +kernel
theorem dX10_isDue_29 : decode cX10_isDue 29 = .ok (.iconst 0, 1) := by decide +kernel
theorem dX10_isDue_30 : decode cX10_isDue 30 = .ok (.ireturn, 1) := by decide +kernel
theorem dX10_isKnownSide_0 : decode cX10_isKnownSide 0 = .ok (.aload_n 0, 1) := by decide +kernel
theorem dX10_isKnownSide_1 : decode cX10_isKnownSide 1 = .ok (.iload_n 1, 1) := by decide +kernel
theorem dX10_isKnownSide_2 : decode cX10_isKnownSide 2 = .ok (.sipush 480, 3) := by decide +kernel
theorem dX10_isKnownSide_5 : decode cX10_isKnownSide 5 = .ok (.imul, 1) := by decide +kernel
theorem dX10_isKnownSide_6 : decode cX10_isKnownSide 6 = .ok (.iconst 4, 1) := by decide +kernel
theorem dX10_isKnownSide_7 : decode cX10_isKnownSide 7 = .ok (.iload_n 2, 1) := by decide +kernel
theorem dX10_isKnownSide_8 : decode cX10_isKnownSide 8 = .ok (.imul, 1) := by decide +kernel
theorem dX10_isKnownSide_9 : decode cX10_isKnownSide 9 = .ok (.iadd, 1) := by decide +kernel
theorem dX10_isKnownSide_10 : decode cX10_isKnownSide 10 = .ok (.iload_n 3, 1) := by decide +kernel
theorem dX10_isKnownSide_11 : decode cX10_isKnownSide 11 = .ok (.iadd, 1) := by decide +kernel
theorem dX10_isKnownSide_12 : decode cX10_isKnownSide 12 = .ok (.invokevirtual 180, 3) := by decide +kernel
theorem dX10_isKnownSide_15 : decode cX10_isKnownSide 15 = .ok (.aload_n 0, 1) := by decide +kernel
theorem dX10_isKnownSide_16 : decode cX10_isKnownSide 16 = .ok (.getfield 135, 3) := by decide +kernel
theorem dX10_isKnownSide_19 : decode cX10_isKnownSide 19 = .ok (.ifCond .le 27, 3) := by decide +kernel
theorem dX10_isKnownSide_22 : decode cX10_isKnownSide 22 = .ok (.aload_n 0, 1) := by decide +kernel
theorem dX10_isKnownSide_23 : decode cX10_isKnownSide 23 = .ok (.invokevirtual 176, 3) := by decide +kernel
theorem dX10_isKnownSide_26 : decode cX10_isKnownSide 26 = .ok (.ifCond .ne 20, 3) := by decide +kernel
theorem dX10_isKnownSide_29 : decode cX10_isKnownSide 29 = .ok (.aload_n 0, 1) := by decide +kernel
theorem dX10_isKnownSide_30 : decode cX10_isKnownSide 30 = .ok (.aload_n 0, 1) := by decide +kernel
theorem dX10_isKnownSide_31 : decode cX10_isKnownSide 31 = .ok (.getfield 29, 3) := by decide +kernel
theorem dX10_isKnownSide_34 : decode cX10_isKnownSide 34 = .ok (.iload_n 1, 1) := by decide +kernel
theorem dX10_isKnownSide_35 : decode cX10_isKnownSide 35 = .ok (.iaload, 1) := by decide +kernel
theorem dX10_isKnownSide_36 : decode cX10_isKnownSide 36 = .ok (.invokevirtual 184, 3) := by decide +kernel
theorem dX10_isKnownSide_39 : decode cX10_isKnownSide 39 = .ok (.ifCond .ne 7, 3) := by decide +kernel
theorem dX10_isKnownSide_42 : decode cX10_isKnownSide 42 = .ok (.iconst 1, 1) := by decide +kernel
theorem dX10_isKnownSide_43 : decode cX10_isKnownSide 43 = .ok (.goto 4, 3) := by decide +kernel
theorem dX10_isKnownSide_46 : decode cX10_isKnownSide 46 = .ok (.iconst 0, 1) := by decide +kernel
theorem dX10_isKnownSide_47 : decode cX10_isKnownSide 47 = .ok (.ireturn, 1) := by decide +kernel
theorem dX10_isKnown_0 : decode cX10_isKnown 0 = .ok (.iconst 1, 1) := by decide +kernel
theorem dX10_isKnown_1 : decode cX10_isKnown 1 = .ok (.istore_n 3, 1) := by decide +kernel
theorem dX10_isKnown_2 : decode cX10_isKnown 2 = .ok (.iconst 0, 1) := by decide +kernel
theorem dX10_isKnown_3 : decode cX10_isKnown 3 = .ok (.istore 4, 2) := by decide +kernel
theorem dX10_isKnown_5 : decode cX10_isKnown 5 = .ok (.iload 4, 2) := by decide +kernel
theorem dX10_isKnown_7 : decode cX10_isKnown 7 = .ok (.aload_n 0, 1) := by decide +kernel
theorem dX10_isKnown_8 : decode cX10_isKnown 8 = .ok (.getfield 9, 3) := by decide +kernel
theorem dX10_isKnown_11 : decode cX10_isKnown 11 = .ok (.iload_n 2, 1) := by decide +kernel
theorem dX10_isKnown_12 : decode cX10_isKnown 12 = .ok (.iaload, 1) := by decide +kernel
theorem dX10_isKnown_13 : decode cX10_isKnown 13 = .ok (.if_icmp .ge 30, 3) := by decide +kernel
theorem dX10_isKnown_16 : decode cX10_isKnown 16 = .ok (.iload_n 3, 1) := by decide +kernel
theorem dX10_isKnown_17 : decode cX10_isKnown 17 = .ok (.ifCond .eq 18, 3) := by decide +kernel
theorem dX10_isKnown_20 : decode cX10_isKnown 20 = .ok (.aload_n 0, 1) := by decide +kernel
theorem dX10_isKnown_21 : decode cX10_isKnown 21 = .ok (.iload_n 1, 1) := by decide +kernel
theorem dX10_isKnown_22 : decode cX10_isKnown 22 = .ok (.iload_n 2, 1) := by decide +kernel
theorem dX10_isKnown_23 : decode cX10_isKnown 23 = .ok (.iload 4, 2) := by decide +kernel
theorem dX10_isKnown_25 : decode cX10_isKnown 25 = .ok (.invokevirtual 187, 3) := by decide +kernel
theorem dX10_isKnown_28 : decode cX10_isKnown 28 = .ok (.ifCond .eq 7, 3) := by decide +kernel
theorem dX10_isKnown_31 : decode cX10_isKnown 31 = .ok (.iconst 1, 1) := by decide +kernel
theorem dX10_isKnown_32 : decode cX10_isKnown 32 = .ok (.goto 4, 3) := by decide +kernel
theorem dX10_isKnown_35 : decode cX10_isKnown 35 = .ok (.iconst 0, 1) := by decide +kernel
theorem dX10_isKnown_36 : decode cX10_isKnown 36 = .ok (.istore_n 3, 1) := by decide +kernel
theorem dX10_isKnown_37 : decode cX10_isKnown 37 = .ok (.iinc 4 1, 3) := by decide +kernel
theorem dX10_isKnown_40 : decode cX10_isKnown 40 = .ok (.goto (-35), 3) := by decide +kernel
theorem dX10_isKnown_43 : decode cX10_isKnown 43 = .ok (.iload_n 3, 1) := by decide +kernel
theorem dX10_isKnown_44 : decode cX10_isKnown 44 = .ok (.ireturn, 1) := by decide +kernel
theorem dX10_day_0 : decode cX10_day 0 = .ok (.iload_n 1, 1) := by decide +kernel
theorem dX10_day_1 : decode cX10_day 1 = .ok (.invokestatic 190, 3) := by decide +kernel
theorem dX10_day_4 : decode cX10_day 4 = .ok (.ifCond .eq 27, 3) := by decide +kernel
theorem dX10_day_7 : decode cX10_day 7 = .ok (.iload_n 2, 1) := by decide +kernel
theorem dX10_day_8 : decode cX10_day 8 = .ok (.iconst 1, 1) := by decide +kernel
theorem dX10_day_9 : decode cX10_day 9 = .ok (.sipush 1000, 3) := by decide +kernel
theorem dX10_day_12 : decode cX10_day 12 = .ok (.invokestatic 123, 3) := by decide +kernel
theorem dX10_day_15 : decode cX10_day 15 = .ok (.ifCond .eq 16, 3) := by decide +kernel
theorem dX10_day_18 : decode cX10_day 18 = .ok (.aload_n 0, 1) := by decide +kernel
theorem dX10_day_19 : decode cX10_day 19 = .ok (.getfield 29, 3) := by decide +kernel
theorem dX10_day_22 : decode cX10_day 22 = .ok (.iload_n 1, 1) := by decide +kernel
theorem dX10_day_23 : decode cX10_day 23 = .ok (.iaload, 1) := by decide +kernel
theorem dX10_day_24 : decode cX10_day 24 = .ok (.iload_n 2, 1) := by decide +kernel
theorem dX10_day_25 : decode cX10_day 25 = .ok (.iadd, 1) := by decide +kernel
theorem dX10_day_26 : decode cX10_day 26 = .ok (.ldc 134, 2) := by decide +kernel
theorem dX10_day_28 : decode cX10_day 28 = .ok (.if_icmp .le 5, 3) := by decide +kernel
theorem dX10_day_31 : decode cX10_day 31 = .ok (.iconst (-1), 1) := by decide +kernel
theorem dX10_day_32 : decode cX10_day 32 = .ok (.ireturn, 1) := by decide +kernel
theorem dX10_day_33 : decode cX10_day 33 = .ok (.aload_n 0, 1) := by decide +kernel
theorem dX10_day_34 : decode cX10_day 34 = .ok (.getfield 29, 3) := by decide +kernel
theorem dX10_day_37 : decode cX10_day 37 = .ok (.iload_n 1, 1) := by decide +kernel
theorem dX10_day_38 : decode cX10_day 38 = .ok (.dup2, 1) := by decide +kernel
theorem dX10_day_39 : decode cX10_day 39 = .ok (.iaload, 1) := by decide +kernel
theorem dX10_day_40 : decode cX10_day 40 = .ok (.iload_n 2, 1) := by decide +kernel
theorem dX10_day_41 : decode cX10_day 41 = .ok (.iadd, 1) := by decide +kernel
theorem dX10_day_42 : decode cX10_day 42 = .ok (.iastore, 1) := by decide +kernel
theorem dX10_day_43 : decode cX10_day 43 = .ok (.aload_n 0, 1) := by decide +kernel
theorem dX10_day_44 : decode cX10_day 44 = .ok (.getfield 35, 3) := by decide +kernel
theorem dX10_day_47 : decode cX10_day 47 = .ok (.iload_n 1, 1) := by decide +kernel
theorem dX10_day_48 : decode cX10_day 48 = .ok (.iconst 0, 1) := by decide +kernel
theorem dX10_day_49 : decode cX10_day 49 = .ok (.iastore, 1) := by decide +kernel
theorem dX10_day_50 : decode cX10_day 50 = .ok (.iconst 0, 1) := by decide +kernel
theorem dX10_day_51 : decode cX10_day 51 = .ok (.istore_n 3, 1) := by decide +kernel
theorem dX10_day_52 : decode cX10_day 52 = .ok (.iload_n 3, 1) := by decide +kernel
theorem dX10_day_53 : decode cX10_day 53 = .ok (.sipush 480, 3) := by decide +kernel
theorem dX10_day_56 : decode cX10_day 56 = .ok (.if_icmp .ge 35, 3) := by decide +kernel
theorem dX10_day_59 : decode cX10_day 59 = .ok (.aload_n 0, 1) := by decide +kernel
theorem dX10_day_60 : decode cX10_day 60 = .ok (.getfield 41, 3) := by decide +kernel
theorem dX10_day_63 : decode cX10_day 63 = .ok (.iload_n 1, 1) := by decide +kernel
theorem dX10_day_64 : decode cX10_day 64 = .ok (.sipush 480, 3) := by decide +kernel
theorem dX10_day_67 : decode cX10_day 67 = .ok (.imul, 1) := by decide +kernel
theorem dX10_day_68 : decode cX10_day 68 = .ok (.iload_n 3, 1) := by decide +kernel
theorem dX10_day_69 : decode cX10_day 69 = .ok (.iadd, 1) := by decide +kernel
theorem dX10_day_70 : decode cX10_day 70 = .ok (.iconst 0, 1) := by decide +kernel
theorem dX10_day_71 : decode cX10_day 71 = .ok (.bastore, 1) := by decide +kernel
theorem dX10_day_72 : decode cX10_day 72 = .ok (.aload_n 0, 1) := by decide +kernel
theorem dX10_day_73 : decode cX10_day 73 = .ok (.getfield 38, 3) := by decide +kernel
theorem dX10_day_76 : decode cX10_day 76 = .ok (.iload_n 1, 1) := by decide +kernel
theorem dX10_day_77 : decode cX10_day 77 = .ok (.sipush 480, 3) := by decide +kernel
theorem dX10_day_80 : decode cX10_day 80 = .ok (.imul, 1) := by decide +kernel
theorem dX10_day_81 : decode cX10_day 81 = .ok (.iload_n 3, 1) := by decide +kernel
theorem dX10_day_82 : decode cX10_day 82 = .ok (.iadd, 1) := by decide +kernel
theorem dX10_day_83 : decode cX10_day 83 = .ok (.iconst 0, 1) := by decide +kernel
theorem dX10_day_84 : decode cX10_day 84 = .ok (.iastore, 1) := by decide +kernel
theorem dX10_day_85 : decode cX10_day 85 = .ok (.iinc 3 1, 3) := by decide +kernel
theorem dX10_day_88 : decode cX10_day 88 = .ok (.goto (-36), 3) := by decide +kernel
theorem dX10_day_91 : decode cX10_day 91 = .ok (.aload_n 0, 1) := by decide +kernel
theorem dX10_day_92 : decode cX10_day 92 = .ok (.getfield 29, 3) := by decide +kernel
theorem dX10_day_95 : decode cX10_day 95 = .ok (.iload_n 1, 1) := by decide +kernel
theorem dX10_day_96 : decode cX10_day 96 = .ok (.iaload, 1) := by decide +kernel
theorem dX10_day_97 : decode cX10_day 97 = .ok (.ireturn, 1) := by decide +kernel
theorem dX10_dueSide_0 : decode cX10_dueSide 0 = .ok (.iconst (-1), 1) := by decide +kernel
theorem dX10_dueSide_1 : decode cX10_dueSide 1 = .ok (.istore 5, 2) := by decide +kernel
theorem dX10_dueSide_3 : decode cX10_dueSide 3 = .ok (.iconst 0, 1) := by decide +kernel
theorem dX10_dueSide_4 : decode cX10_dueSide 4 = .ok (.istore 6, 2) := by decide +kernel
theorem dX10_dueSide_6 : decode cX10_dueSide 6 = .ok (.iconst 0, 1) := by decide +kernel
theorem dX10_dueSide_7 : decode cX10_dueSide 7 = .ok (.istore 7, 2) := by decide +kernel
theorem dX10_dueSide_9 : decode cX10_dueSide 9 = .ok (.iload 7, 2) := by decide +kernel
theorem dX10_dueSide_11 : decode cX10_dueSide 11 = .ok (.aload_n 0, 1) := by decide +kernel
theorem dX10_dueSide_12 : decode cX10_dueSide 12 = .ok (.getfield 9, 3) := by decide +kernel
theorem dX10_dueSide_15 : decode cX10_dueSide 15 = .ok (.iload_n 2, 1) := by decide +kernel
theorem dX10_dueSide_16 : decode cX10_dueSide 16 = .ok (.iaload, 1) := by decide +kernel
theorem dX10_dueSide_17 : decode cX10_dueSide 17 = .ok (.if_icmp .ge 79, 3) := by decide +kernel
theorem dX10_dueSide_20 : decode cX10_dueSide 20 = .ok (.iload_n 1, 1) := by decide +kernel
theorem dX10_dueSide_21 : decode cX10_dueSide 21 = .ok (.sipush 480, 3) := by decide +kernel
theorem dX10_dueSide_24 : decode cX10_dueSide 24 = .ok (.imul, 1) := by decide +kernel
theorem dX10_dueSide_25 : decode cX10_dueSide 25 = .ok (.iconst 4, 1) := by decide +kernel
theorem dX10_dueSide_26 : decode cX10_dueSide 26 = .ok (.iload_n 2, 1) := by decide +kernel
theorem dX10_dueSide_27 : decode cX10_dueSide 27 = .ok (.imul, 1) := by decide +kernel
theorem dX10_dueSide_28 : decode cX10_dueSide 28 = .ok (.iadd, 1) := by decide +kernel
theorem dX10_dueSide_29 : decode cX10_dueSide 29 = .ok (.iload 7, 2) := by decide +kernel
theorem dX10_dueSide_31 : decode cX10_dueSide 31 = .ok (.iadd, 1) := by decide +kernel
theorem dX10_dueSide_32 : decode cX10_dueSide 32 = .ok (.istore 8, 2) := by decide +kernel
theorem dX10_dueSide_34 : decode cX10_dueSide 34 = .ok (.aload_n 0, 1) := by decide +kernel
theorem dX10_dueSide_35 : decode cX10_dueSide 35 = .ok (.iload 8, 2) := by decide +kernel
theorem dX10_dueSide_37 : decode cX10_dueSide 37 = .ok (.invokevirtual 180, 3) := by decide +kernel
theorem dX10_dueSide_40 : decode cX10_dueSide 40 = .ok (.aload_n 0, 1) := by decide +kernel
theorem dX10_dueSide_41 : decode cX10_dueSide 41 = .ok (.iload_n 3, 1) := by decide +kernel
theorem dX10_dueSide_42 : decode cX10_dueSide 42 = .ok (.invokevirtual 184, 3) := by decide +kernel
theorem dX10_dueSide_45 : decode cX10_dueSide 45 = .ok (.ifCond .eq 45, 3) := by decide +kernel
theorem dX10_dueSide_48 : decode cX10_dueSide 48 = .ok (.iload 4, 2) := by decide +kernel
theorem dX10_dueSide_50 : decode cX10_dueSide 50 = .ok (.ifCond .eq 13, 3) := by decide +kernel
theorem dX10_dueSide_53 : decode cX10_dueSide 53 = .ok (.aload_n 0, 1) := by decide +kernel
theorem dX10_dueSide_54 : decode cX10_dueSide 54 = .ok (.getfield 41, 3) := by decide +kernel
theorem dX10_dueSide_57 : decode cX10_dueSide 57 = .ok (.iload 8, 2) := by decide +kernel
theorem dX10_dueSide_59 : decode cX10_dueSide 59 = .ok (.baload, 1) := by decide +kernel
theorem dX10_dueSide_60 : decode cX10_dueSide 60 = .ok (.ifCond .ne 30, 3) := by decide +kernel
theorem dX10_dueSide_63 : decode cX10_dueSide 63 = .ok (.aload_n 0, 1) := by decide +kernel
theorem dX10_dueSide_64 : decode cX10_dueSide 64 = .ok (.iload_n 3, 1) := by decide +kernel
theorem dX10_dueSide_65 : decode cX10_dueSide 65 = .ok (.invokevirtual 162, 3) := by decide +kernel
theorem dX10_dueSide_68 : decode cX10_dueSide 68 = .ok (.istore 9, 2) := by decide +kernel
theorem dX10_dueSide_70 : decode cX10_dueSide 70 = .ok (.iload 5, 2) := by decide +kernel
theorem dX10_dueSide_72 : decode cX10_dueSide 72 = .ok (.ifCond .lt 10, 3) := by decide +kernel
theorem dX10_dueSide_75 : decode cX10_dueSide 75 = .ok (.iload 9, 2) := by decide +kernel
theorem dX10_dueSide_77 : decode cX10_dueSide 77 = .ok (.iload 6, 2) := by decide +kernel
theorem dX10_dueSide_79 : decode cX10_dueSide 79 = .ok (.if_icmp .ge 11, 3) := by decide +kernel
theorem dX10_dueSide_82 : decode cX10_dueSide 82 = .ok (.iload 7, 2) := by decide +kernel
theorem dX10_dueSide_84 : decode cX10_dueSide 84 = .ok (.istore 5, 2) := by decide +kernel
theorem dX10_dueSide_86 : decode cX10_dueSide 86 = .ok (.iload 9, 2) := by decide +kernel
theorem dX10_dueSide_88 : decode cX10_dueSide 88 = .ok (.istore 6, 2) := by decide +kernel
theorem dX10_dueSide_90 : decode cX10_dueSide 90 = .ok (.iinc 7 1, 3) := by decide +kernel
theorem dX10_dueSide_93 : decode cX10_dueSide 93 = .ok (.goto (-84), 3) := by decide +kernel
theorem dX10_dueSide_96 : decode cX10_dueSide 96 = .ok (.aload_n 0, 1) := by decide +kernel
theorem dX10_dueSide_97 : decode cX10_dueSide 97 = .ok (.iload 6, 2) := by decide +kernel
theorem dX10_dueSide_99 : decode cX10_dueSide 99 = .ok (.putfield 193, 3) := by decide +kernel
theorem dX10_dueSide_102 : decode cX10_dueSide 102 = .ok (.iload 5, 2) := by decide +kernel
theorem dX10_dueSide_104 : decode cX10_dueSide 104 = .ok (.ireturn, 1) := by decide +kernel
theorem dX10_leanedOn_0 : decode cX10_leanedOn 0 = .ok (.iconst 0, 1) := by decide +kernel
theorem dX10_leanedOn_1 : decode cX10_leanedOn 1 = .ok (.istore_n 3, 1) := by decide +kernel
theorem dX10_leanedOn_2 : decode cX10_leanedOn 2 = .ok (.iconst 0, 1) := by decide +kernel
theorem dX10_leanedOn_3 : decode cX10_leanedOn 3 = .ok (.istore 4, 2) := by decide +kernel
theorem dX10_leanedOn_5 : decode cX10_leanedOn 5 = .ok (.iload 4, 2) := by decide +kernel
theorem dX10_leanedOn_7 : decode cX10_leanedOn 7 = .ok (.aload_n 0, 1) := by decide +kernel
theorem dX10_leanedOn_8 : decode cX10_leanedOn 8 = .ok (.getfield 16, 3) := by decide +kernel
theorem dX10_leanedOn_11 : decode cX10_leanedOn 11 = .ok (.iload_n 2, 1) := by decide +kernel
theorem dX10_leanedOn_12 : decode cX10_leanedOn 12 = .ok (.iaload, 1) := by decide +kernel
theorem dX10_leanedOn_13 : decode cX10_leanedOn 13 = .ok (.if_icmp .ge 36, 3) := by decide +kernel
theorem dX10_leanedOn_16 : decode cX10_leanedOn 16 = .ok (.iload_n 3, 1) := by decide +kernel
theorem dX10_leanedOn_17 : decode cX10_leanedOn 17 = .ok (.aload_n 0, 1) := by decide +kernel
theorem dX10_leanedOn_18 : decode cX10_leanedOn 18 = .ok (.iload_n 1, 1) := by decide +kernel
theorem dX10_leanedOn_19 : decode cX10_leanedOn 19 = .ok (.aload_n 0, 1) := by decide +kernel
theorem dX10_leanedOn_20 : decode cX10_leanedOn 20 = .ok (.getfield 13, 3) := by decide +kernel
theorem dX10_leanedOn_23 : decode cX10_leanedOn 23 = .ok (.iconst 4, 1) := by decide +kernel
theorem dX10_leanedOn_24 : decode cX10_leanedOn 24 = .ok (.iload_n 2, 1) := by decide +kernel
theorem dX10_leanedOn_25 : decode cX10_leanedOn 25 = .ok (.imul, 1) := by decide +kernel
theorem dX10_leanedOn_26 : decode cX10_leanedOn 26 = .ok (.iload 4, 2) := by decide +kernel
theorem dX10_leanedOn_28 : decode cX10_leanedOn 28 = .ok (.iadd, 1) := by decide +kernel
theorem dX10_leanedOn_29 : decode cX10_leanedOn 29 = .ok (.iaload, 1) := by decide +kernel
theorem dX10_leanedOn_30 : decode cX10_leanedOn 30 = .ok (.invokevirtual 196, 3) := by decide +kernel
theorem dX10_leanedOn_33 : decode cX10_leanedOn 33 = .ok (.ifCond .eq 7, 3) := by decide +kernel
theorem dX10_leanedOn_36 : decode cX10_leanedOn 36 = .ok (.iconst 1, 1) := by decide +kernel
theorem dX10_leanedOn_37 : decode cX10_leanedOn 37 = .ok (.goto 4, 3) := by decide +kernel
theorem dX10_leanedOn_40 : decode cX10_leanedOn 40 = .ok (.iconst 0, 1) := by decide +kernel
theorem dX10_leanedOn_41 : decode cX10_leanedOn 41 = .ok (.iadd, 1) := by decide +kernel
theorem dX10_leanedOn_42 : decode cX10_leanedOn 42 = .ok (.istore_n 3, 1) := by decide +kernel
theorem dX10_leanedOn_43 : decode cX10_leanedOn 43 = .ok (.iinc 4 1, 3) := by decide +kernel
theorem dX10_leanedOn_46 : decode cX10_leanedOn 46 = .ok (.goto (-41), 3) := by decide +kernel
theorem dX10_leanedOn_49 : decode cX10_leanedOn 49 = .ok (.iload_n 3, 1) := by decide +kernel
theorem dX10_leanedOn_50 : decode cX10_leanedOn 50 = .ok (.ireturn, 1) := by decide +kernel
theorem dX10_start_0 : decode cX10_start 0 = .ok (.iload_n 1, 1) := by decide +kernel
theorem dX10_start_1 : decode cX10_start 1 = .ok (.invokestatic 190, 3) := by decide +kernel
theorem dX10_start_4 : decode cX10_start 4 = .ok (.ifCond .ne 5, 3) := by decide +kernel
theorem dX10_start_7 : decode cX10_start 7 = .ok (.iconst (-1), 1) := by decide +kernel
theorem dX10_start_8 : decode cX10_start 8 = .ok (.ireturn, 1) := by decide +kernel
theorem dX10_start_9 : decode cX10_start 9 = .ok (.aload_n 0, 1) := by decide +kernel
theorem dX10_start_10 : decode cX10_start 10 = .ok (.getfield 35, 3) := by decide +kernel
theorem dX10_start_13 : decode cX10_start 13 = .ok (.iload_n 1, 1) := by decide +kernel
theorem dX10_start_14 : decode cX10_start 14 = .ok (.iaload, 1) := by decide +kernel
theorem dX10_start_15 : decode cX10_start 15 = .ok (.ifCond .le 6, 3) := by decide +kernel
theorem dX10_start_18 : decode cX10_start 18 = .ok (.bipush (-5), 2) := by decide +kernel
theorem dX10_start_20 : decode cX10_start 20 = .ok (.ireturn, 1) := by decide +kernel
theorem dX10_start_21 : decode cX10_start 21 = .ok (.iconst 0, 1) := by decide +kernel
theorem dX10_start_22 : decode cX10_start 22 = .ok (.istore_n 2, 1) := by decide +kernel
theorem dX10_start_23 : decode cX10_start 23 = .ok (.iload_n 1, 1) := by decide +kernel
theorem dX10_start_24 : decode cX10_start 24 = .ok (.sipush 480, 3) := by decide +kernel
theorem dX10_start_27 : decode cX10_start 27 = .ok (.imul, 1) := by decide +kernel
theorem dX10_start_28 : decode cX10_start 28 = .ok (.istore_n 3, 1) := by decide +kernel
theorem dX10_start_29 : decode cX10_start 29 = .ok (.iconst 0, 1) := by decide +kernel
theorem dX10_start_30 : decode cX10_start 30 = .ok (.istore 4, 2) := by decide +kernel
theorem dX10_start_32 : decode cX10_start 32 = .ok (.iload 4, 2) := by decide +kernel
theorem dX10_start_34 : decode cX10_start 34 = .ok (.aload_n 0, 1) := by decide +kernel
theorem dX10_start_35 : decode cX10_start 35 = .ok (.getfield 116, 3) := by decide +kernel
theorem dX10_start_38 : decode cX10_start 38 = .ok (.if_icmp .ge 126, 3) := by decide +kernel
theorem dX10_start_41 : decode cX10_start 41 = .ok (.aload_n 0, 1) := by decide +kernel
theorem dX10_start_42 : decode cX10_start 42 = .ok (.iload_n 1, 1) := by decide +kernel
theorem dX10_start_43 : decode cX10_start 43 = .ok (.iload 4, 2) := by decide +kernel
theorem dX10_start_45 : decode cX10_start 45 = .ok (.aload_n 0, 1) := by decide +kernel
theorem dX10_start_46 : decode cX10_start 46 = .ok (.getfield 29, 3) := by decide +kernel
theorem dX10_start_49 : decode cX10_start 49 = .ok (.iload_n 1, 1) := by decide +kernel
theorem dX10_start_50 : decode cX10_start 50 = .ok (.iaload, 1) := by decide +kernel
theorem dX10_start_51 : decode cX10_start 51 = .ok (.iconst 1, 1) := by decide +kernel
theorem dX10_start_52 : decode cX10_start 52 = .ok (.invokevirtual 199, 3) := by decide +kernel
theorem dX10_start_55 : decode cX10_start 55 = .ok (.istore 5, 2) := by decide +kernel
theorem dX10_start_57 : decode cX10_start 57 = .ok (.iload 5, 2) := by decide +kernel
theorem dX10_start_59 : decode cX10_start 59 = .ok (.ifCond .lt 99, 3) := by decide +kernel
theorem dX10_start_62 : decode cX10_start 62 = .ok (.iload_n 2, 1) := by decide +kernel
theorem dX10_start_63 : decode cX10_start 63 = .ok (.istore 6, 2) := by decide +kernel
theorem dX10_start_65 : decode cX10_start 65 = .ok (.iload 6, 2) := by decide +kernel
theorem dX10_start_67 : decode cX10_start 67 = .ok (.ifCond .le 61, 3) := by decide +kernel
theorem dX10_start_70 : decode cX10_start 70 = .ok (.aload_n 0, 1) := by decide +kernel
theorem dX10_start_71 : decode cX10_start 71 = .ok (.getfield 110, 3) := by decide +kernel
theorem dX10_start_74 : decode cX10_start 74 = .ok (.iload 6, 2) := by decide +kernel
theorem dX10_start_76 : decode cX10_start 76 = .ok (.iconst 1, 1) := by decide +kernel
theorem dX10_start_77 : decode cX10_start 77 = .ok (.isub, 1) := by decide +kernel
theorem dX10_start_78 : decode cX10_start 78 = .ok (.iaload, 1) := by decide +kernel
theorem dX10_start_79 : decode cX10_start 79 = .ok (.aload_n 0, 1) := by decide +kernel
theorem dX10_start_80 : decode cX10_start 80 = .ok (.getfield 193, 3) := by decide +kernel
theorem dX10_start_83 : decode cX10_start 83 = .ok (.if_icmp .le 45, 3) := by decide +kernel
theorem dX10_start_86 : decode cX10_start 86 = .ok (.aload_n 0, 1) := by decide +kernel
theorem dX10_start_87 : decode cX10_start 87 = .ok (.getfield 110, 3) := by decide +kernel
theorem dX10_start_90 : decode cX10_start 90 = .ok (.iload 6, 2) := by decide +kernel
theorem dX10_start_92 : decode cX10_start 92 = .ok (.aload_n 0, 1) := by decide +kernel
theorem dX10_start_93 : decode cX10_start 93 = .ok (.getfield 110, 3) := by decide +kernel
theorem dX10_start_96 : decode cX10_start 96 = .ok (.iload 6, 2) := by decide +kernel
theorem dX10_start_98 : decode cX10_start 98 = .ok (.iconst 1, 1) := by decide +kernel
theorem dX10_start_99 : decode cX10_start 99 = .ok (.isub, 1) := by decide +kernel
theorem dX10_start_100 : decode cX10_start 100 = .ok (.iaload, 1) := by decide +kernel
theorem dX10_start_101 : decode cX10_start 101 = .ok (.iastore, 1) := by decide +kernel
theorem dX10_start_102 : decode cX10_start 102 = .ok (.aload_n 0, 1) := by decide +kernel
theorem dX10_start_103 : decode cX10_start 103 = .ok (.getfield 32, 3) := by decide +kernel
theorem dX10_start_106 : decode cX10_start 106 = .ok (.iload_n 3, 1) := by decide +kernel
theorem dX10_start_107 : decode cX10_start 107 = .ok (.iload 6, 2) := by decide +kernel
theorem dX10_start_109 : decode cX10_start 109 = .ok (.iadd, 1) := by decide +kernel
theorem dX10_start_110 : decode cX10_start 110 = .ok (.aload_n 0, 1) := by decide +kernel
theorem dX10_start_111 : decode cX10_start 111 = .ok (.getfield 32, 3) := by decide +kernel
theorem dX10_start_114 : decode cX10_start 114 = .ok (.iload_n 3, 1) := by decide +kernel
theorem dX10_start_115 : decode cX10_start 115 = .ok (.iload 6, 2) := by decide +kernel
theorem dX10_start_117 : decode cX10_start 117 = .ok (.iadd, 1) := by decide +kernel
theorem dX10_start_118 : decode cX10_start 118 = .ok (.iconst 1, 1) := by decide +kernel
theorem dX10_start_119 : decode cX10_start 119 = .ok (.isub, 1) := by decide +kernel
theorem dX10_start_120 : decode cX10_start 120 = .ok (.iaload, 1) := by decide +kernel
theorem dX10_start_121 : decode cX10_start 121 = .ok (.iastore, 1) := by decide +kernel
theorem dX10_start_122 : decode cX10_start 122 = .ok (.iinc 6 (-1), 3) := by decide +kernel
theorem dX10_start_125 : decode cX10_start 125 = .ok (.goto (-60), 3) := by decide +kernel
theorem dX10_start_128 : decode cX10_start 128 = .ok (.aload_n 0, 1) := by decide +kernel
theorem dX10_start_129 : decode cX10_start 129 = .ok (.getfield 110, 3) := by decide +kernel
theorem dX10_start_132 : decode cX10_start 132 = .ok (.iload 6, 2) := by decide +kernel
theorem dX10_start_134 : decode cX10_start 134 = .ok (.aload_n 0, 1) := by decide +kernel
theorem dX10_start_135 : decode cX10_start 135 = .ok (.getfield 193, 3) := by decide +kernel
theorem dX10_start_138 : decode cX10_start 138 = .ok (.iastore, 1) := by decide +kernel
theorem dX10_start_139 : decode cX10_start 139 = .ok (.aload_n 0, 1) := by decide +kernel
theorem dX10_start_140 : decode cX10_start 140 = .ok (.getfield 32, 3) := by decide +kernel
theorem dX10_start_143 : decode cX10_start 143 = .ok (.iload_n 3, 1) := by decide +kernel
theorem dX10_start_144 : decode cX10_start 144 = .ok (.iload 6, 2) := by decide +kernel
theorem dX10_start_146 : decode cX10_start 146 = .ok (.iadd, 1) := by decide +kernel
theorem dX10_start_147 : decode cX10_start 147 = .ok (.iconst 4, 1) := by decide +kernel
theorem dX10_start_148 : decode cX10_start 148 = .ok (.iload 4, 2) := by decide +kernel
theorem dX10_start_150 : decode cX10_start 150 = .ok (.imul, 1) := by decide +kernel
theorem dX10_start_151 : decode cX10_start 151 = .ok (.iload 5, 2) := by decide +kernel
theorem dX10_start_153 : decode cX10_start 153 = .ok (.iadd, 1) := by decide +kernel
theorem dX10_start_154 : decode cX10_start 154 = .ok (.iastore, 1) := by decide +kernel
theorem dX10_start_155 : decode cX10_start 155 = .ok (.iinc 2 1, 3) := by decide +kernel
theorem dX10_start_158 : decode cX10_start 158 = .ok (.iinc 4 1, 3) := by decide +kernel
theorem dX10_start_161 : decode cX10_start 161 = .ok (.goto (-129), 3) := by decide +kernel
theorem dX10_start_164 : decode cX10_start 164 = .ok (.iload_n 2, 1) := by decide +kernel
theorem dX10_start_165 : decode cX10_start 165 = .ok (.aload_n 0, 1) := by decide +kernel
theorem dX10_start_166 : decode cX10_start 166 = .ok (.getfield 22, 3) := by decide +kernel
theorem dX10_start_169 : decode cX10_start 169 = .ok (.if_icmp .ge 7, 3) := by decide +kernel
theorem dX10_start_172 : decode cX10_start 172 = .ok (.iload_n 2, 1) := by decide +kernel
theorem dX10_start_173 : decode cX10_start 173 = .ok (.goto 7, 3) := by decide +kernel
theorem dX10_start_176 : decode cX10_start 176 = .ok (.aload_n 0, 1) := by decide +kernel
theorem dX10_start_177 : decode cX10_start 177 = .ok (.getfield 22, 3) := by decide +kernel
theorem dX10_start_180 : decode cX10_start 180 = .ok (.istore_n 2, 1) := by decide +kernel
theorem dX10_start_181 : decode cX10_start 181 = .ok (.iconst 0, 1) := by decide +kernel
theorem dX10_start_182 : decode cX10_start 182 = .ok (.istore 4, 2) := by decide +kernel
theorem dX10_start_184 : decode cX10_start 184 = .ok (.iload_n 2, 1) := by decide +kernel
theorem dX10_start_185 : decode cX10_start 185 = .ok (.istore 5, 2) := by decide +kernel
theorem dX10_start_187 : decode cX10_start 187 = .ok (.iconst 0, 1) := by decide +kernel
theorem dX10_start_188 : decode cX10_start 188 = .ok (.istore 6, 2) := by decide +kernel
theorem dX10_start_190 : decode cX10_start 190 = .ok (.iload 6, 2) := by decide +kernel
theorem dX10_start_192 : decode cX10_start 192 = .ok (.aload_n 0, 1) := by decide +kernel
theorem dX10_start_193 : decode cX10_start 193 = .ok (.getfield 116, 3) := by decide +kernel
theorem dX10_start_196 : decode cX10_start 196 = .ok (.if_icmp .ge 175, 3) := by decide +kernel
theorem dX10_start_199 : decode cX10_start 199 = .ok (.iload 4, 2) := by decide +kernel
theorem dX10_start_201 : decode cX10_start 201 = .ok (.aload_n 0, 1) := by decide +kernel
theorem dX10_start_202 : decode cX10_start 202 = .ok (.getfield 26, 3) := by decide +kernel
theorem dX10_start_205 : decode cX10_start 205 = .ok (.if_icmp .ge 166, 3) := by decide +kernel
theorem dX10_start_208 : decode cX10_start 208 = .ok (.iconst 0, 1) := by decide +kernel
theorem dX10_start_209 : decode cX10_start 209 = .ok (.istore 7, 2) := by decide +kernel
theorem dX10_start_211 : decode cX10_start 211 = .ok (.iconst 0, 1) := by decide +kernel
theorem dX10_start_212 : decode cX10_start 212 = .ok (.istore 8, 2) := by decide +kernel
theorem dX10_start_214 : decode cX10_start 214 = .ok (.iload 8, 2) := by decide +kernel
theorem dX10_start_216 : decode cX10_start 216 = .ok (.iload 5, 2) := by decide +kernel
theorem dX10_start_218 : decode cX10_start 218 = .ok (.if_icmp .ge 37, 3) := by decide +kernel
theorem dX10_start_221 : decode cX10_start 221 = .ok (.iload 7, 2) := by decide +kernel
theorem dX10_start_223 : decode cX10_start 223 = .ok (.ifCond .ne 19, 3) := by decide +kernel
theorem dX10_start_226 : decode cX10_start 226 = .ok (.aload_n 0, 1) := by decide +kernel
theorem dX10_start_227 : decode cX10_start 227 = .ok (.getfield 32, 3) := by decide +kernel
theorem dX10_start_230 : decode cX10_start 230 = .ok (.iload_n 3, 1) := by decide +kernel
theorem dX10_start_231 : decode cX10_start 231 = .ok (.iload 8, 2) := by decide +kernel
theorem dX10_start_233 : decode cX10_start 233 = .ok (.iadd, 1) := by decide +kernel
theorem dX10_start_234 : decode cX10_start 234 = .ok (.iaload, 1) := by decide +kernel
theorem dX10_start_235 : decode cX10_start 235 = .ok (.iconst 4, 1) := by decide +kernel
theorem dX10_start_236 : decode cX10_start 236 = .ok (.idiv, 1) := by decide +kernel
theorem dX10_start_237 : decode cX10_start 237 = .ok (.iload 6, 2) := by decide +kernel
theorem dX10_start_239 : decode cX10_start 239 = .ok (.if_icmp .ne 7, 3) := by decide +kernel
theorem dX10_start_242 : decode cX10_start 242 = .ok (.iconst 1, 1) := by decide +kernel
theorem dX10_start_243 : decode cX10_start 243 = .ok (.goto 4, 3) := by decide +kernel
theorem dX10_start_246 : decode cX10_start 246 = .ok (.iconst 0, 1) := by decide +kernel
theorem dX10_start_247 : decode cX10_start 247 = .ok (.istore 7, 2) := by decide +kernel
theorem dX10_start_249 : decode cX10_start 249 = .ok (.iinc 8 1, 3) := by decide +kernel
theorem dX10_start_252 : decode cX10_start 252 = .ok (.goto (-38), 3) := by decide +kernel
theorem dX10_start_255 : decode cX10_start 255 = .ok (.iconst 0, 1) := by decide +kernel
theorem dX10_start_256 : decode cX10_start 256 = .ok (.istore 8, 2) := by decide +kernel
theorem dX10_start_258 : decode cX10_start 258 = .ok (.iload 8, 2) := by decide +kernel
theorem dX10_start_260 : decode cX10_start 260 = .ok (.aload_n 0, 1) := by decide +kernel
theorem dX10_start_261 : decode cX10_start 261 = .ok (.getfield 9, 3) := by decide +kernel
theorem dX10_start_264 : decode cX10_start 264 = .ok (.iload 6, 2) := by decide +kernel
theorem dX10_start_266 : decode cX10_start 266 = .ok (.iaload, 1) := by decide +kernel
theorem dX10_start_267 : decode cX10_start 267 = .ok (.if_icmp .ge 43, 3) := by decide +kernel
theorem dX10_start_270 : decode cX10_start 270 = .ok (.aload_n 0, 1) := by decide +kernel
theorem dX10_start_271 : decode cX10_start 271 = .ok (.getfield 45, 3) := by decide +kernel
theorem dX10_start_274 : decode cX10_start 274 = .ok (.iload_n 3, 1) := by decide +kernel
theorem dX10_start_275 : decode cX10_start 275 = .ok (.iconst 4, 1) := by decide +kernel
theorem dX10_start_276 : decode cX10_start 276 = .ok (.iload 6, 2) := by decide +kernel
theorem dX10_start_278 : decode cX10_start 278 = .ok (.imul, 1) := by decide +kernel
theorem dX10_start_279 : decode cX10_start 279 = .ok (.iadd, 1) := by decide +kernel
theorem dX10_start_280 : decode cX10_start 280 = .ok (.iload 8, 2) := by decide +kernel
theorem dX10_start_282 : decode cX10_start 282 = .ok (.iadd, 1) := by decide +kernel
theorem dX10_start_283 : decode cX10_start 283 = .ok (.iaload, 1) := by decide +kernel
theorem dX10_start_284 : decode cX10_start 284 = .ok (.ifCond .gt 20, 3) := by decide +kernel
theorem dX10_start_287 : decode cX10_start 287 = .ok (.aload_n 0, 1) := by decide +kernel
theorem dX10_start_288 : decode cX10_start 288 = .ok (.getfield 41, 3) := by decide +kernel
theorem dX10_start_291 : decode cX10_start 291 = .ok (.iload_n 3, 1) := by decide +kernel
theorem dX10_start_292 : decode cX10_start 292 = .ok (.iconst 4, 1) := by decide +kernel
theorem dX10_start_293 : decode cX10_start 293 = .ok (.iload 6, 2) := by decide +kernel
theorem dX10_start_295 : decode cX10_start 295 = .ok (.imul, 1) := by decide +kernel
theorem dX10_start_296 : decode cX10_start 296 = .ok (.iadd, 1) := by decide +kernel
theorem dX10_start_297 : decode cX10_start 297 = .ok (.iload 8, 2) := by decide +kernel
theorem dX10_start_299 : decode cX10_start 299 = .ok (.iadd, 1) := by decide +kernel
theorem dX10_start_300 : decode cX10_start 300 = .ok (.baload, 1) := by decide +kernel
theorem dX10_start_301 : decode cX10_start 301 = .ok (.ifCond .eq 9, 3) := by decide +kernel
theorem dX10_start_304 : decode cX10_start 304 = .ok (.iinc 8 1, 3) := by decide +kernel
theorem dX10_start_307 : decode cX10_start 307 = .ok (.goto (-49), 3) := by decide +kernel
theorem dX10_start_310 : decode cX10_start 310 = .ok (.iload 7, 2) := by decide +kernel
theorem dX10_start_312 : decode cX10_start 312 = .ok (.ifCond .ne 53, 3) := by decide +kernel
theorem dX10_start_315 : decode cX10_start 315 = .ok (.iload 8, 2) := by decide +kernel
theorem dX10_start_317 : decode cX10_start 317 = .ok (.aload_n 0, 1) := by decide +kernel
theorem dX10_start_318 : decode cX10_start 318 = .ok (.getfield 9, 3) := by decide +kernel
theorem dX10_start_321 : decode cX10_start 321 = .ok (.iload 6, 2) := by decide +kernel
theorem dX10_start_323 : decode cX10_start 323 = .ok (.iaload, 1) := by decide +kernel
theorem dX10_start_324 : decode cX10_start 324 = .ok (.if_icmp .ge 41, 3) := by decide +kernel
theorem dX10_start_327 : decode cX10_start 327 = .ok (.aload_n 0, 1) := by decide +kernel
theorem dX10_start_328 : decode cX10_start 328 = .ok (.iload_n 1, 1) := by decide +kernel
theorem dX10_start_329 : decode cX10_start 329 = .ok (.iload 6, 2) := by decide +kernel
theorem dX10_start_331 : decode cX10_start 331 = .ok (.invokevirtual 203, 3) := by decide +kernel
theorem dX10_start_334 : decode cX10_start 334 = .ok (.aload_n 0, 1) := by decide +kernel
theorem dX10_start_335 : decode cX10_start 335 = .ok (.getfield 16, 3) := by decide +kernel
theorem dX10_start_338 : decode cX10_start 338 = .ok (.iload 6, 2) := by decide +kernel
theorem dX10_start_340 : decode cX10_start 340 = .ok (.iaload, 1) := by decide +kernel
theorem dX10_start_341 : decode cX10_start 341 = .ok (.if_icmp .ne 24, 3) := by decide +kernel
theorem dX10_start_344 : decode cX10_start 344 = .ok (.aload_n 0, 1) := by decide +kernel
theorem dX10_start_345 : decode cX10_start 345 = .ok (.getfield 32, 3) := by decide +kernel
theorem dX10_start_348 : decode cX10_start 348 = .ok (.iload_n 3, 1) := by decide +kernel
theorem dX10_start_349 : decode cX10_start 349 = .ok (.iload_n 2, 1) := by decide +kernel
theorem dX10_start_350 : decode cX10_start 350 = .ok (.iadd, 1) := by decide +kernel
theorem dX10_start_351 : decode cX10_start 351 = .ok (.iconst 4, 1) := by decide +kernel
theorem dX10_start_352 : decode cX10_start 352 = .ok (.iload 6, 2) := by decide +kernel
theorem dX10_start_354 : decode cX10_start 354 = .ok (.imul, 1) := by decide +kernel
theorem dX10_start_355 : decode cX10_start 355 = .ok (.iload 8, 2) := by decide +kernel
theorem dX10_start_357 : decode cX10_start 357 = .ok (.iadd, 1) := by decide +kernel
theorem dX10_start_358 : decode cX10_start 358 = .ok (.iastore, 1) := by decide +kernel
theorem dX10_start_359 : decode cX10_start 359 = .ok (.iinc 2 1, 3) := by decide +kernel
theorem dX10_start_362 : decode cX10_start 362 = .ok (.iinc 4 1, 3) := by decide +kernel
theorem dX10_start_365 : decode cX10_start 365 = .ok (.iinc 6 1, 3) := by decide +kernel
theorem dX10_start_368 : decode cX10_start 368 = .ok (.goto (-178), 3) := by decide +kernel
theorem dX10_start_371 : decode cX10_start 371 = .ok (.aload_n 0, 1) := by decide +kernel
theorem dX10_start_372 : decode cX10_start 372 = .ok (.getfield 35, 3) := by decide +kernel
theorem dX10_start_375 : decode cX10_start 375 = .ok (.iload_n 1, 1) := by decide +kernel
theorem dX10_start_376 : decode cX10_start 376 = .ok (.iload_n 2, 1) := by decide +kernel
theorem dX10_start_377 : decode cX10_start 377 = .ok (.iastore, 1) := by decide +kernel
theorem dX10_start_378 : decode cX10_start 378 = .ok (.iload_n 2, 1) := by decide +kernel
theorem dX10_start_379 : decode cX10_start 379 = .ok (.ireturn, 1) := by decide +kernel
theorem dX10_next_0 : decode cX10_next 0 = .ok (.iload_n 1, 1) := by decide +kernel
theorem dX10_next_1 : decode cX10_next 1 = .ok (.invokestatic 190, 3) := by decide +kernel
theorem dX10_next_4 : decode cX10_next 4 = .ok (.ifCond .ne 7, 3) := by decide +kernel
theorem dX10_next_7 : decode cX10_next 7 = .ok (.iconst (-1), 1) := by decide +kernel
theorem dX10_next_8 : decode cX10_next 8 = .ok (.goto 27, 3) := by decide +kernel
theorem dX10_next_11 : decode cX10_next 11 = .ok (.aload_n 0, 1) := by decide +kernel
theorem dX10_next_12 : decode cX10_next 12 = .ok (.getfield 35, 3) := by decide +kernel
theorem dX10_next_15 : decode cX10_next 15 = .ok (.iload_n 1, 1) := by decide +kernel
theorem dX10_next_16 : decode cX10_next 16 = .ok (.iaload, 1) := by decide +kernel
theorem dX10_next_17 : decode cX10_next 17 = .ok (.ifCond .ne 8, 3) := by decide +kernel
theorem dX10_next_20 : decode cX10_next 20 = .ok (.bipush (-4), 2) := by decide +kernel
theorem dX10_next_22 : decode cX10_next 22 = .ok (.goto 13, 3) := by decide +kernel
theorem dX10_next_25 : decode cX10_next 25 = .ok (.aload_n 0, 1) := by decide +kernel
theorem dX10_next_26 : decode cX10_next 26 = .ok (.getfield 32, 3) := by decide +kernel
theorem dX10_next_29 : decode cX10_next 29 = .ok (.iload_n 1, 1) := by decide +kernel
theorem dX10_next_30 : decode cX10_next 30 = .ok (.sipush 480, 3) := by decide +kernel
theorem dX10_next_33 : decode cX10_next 33 = .ok (.imul, 1) := by decide +kernel
theorem dX10_next_34 : decode cX10_next 34 = .ok (.iaload, 1) := by decide +kernel
theorem dX10_next_35 : decode cX10_next 35 = .ok (.ireturn, 1) := by decide +kernel
theorem dX10_dropFirst_0 : decode cX10_dropFirst 0 = .ok (.aload_n 0, 1) := by decide +kernel
theorem dX10_dropFirst_1 : decode cX10_dropFirst 1 = .ok (.getfield 35, 3) := by decide +kernel
theorem dX10_dropFirst_4 : decode cX10_dropFirst 4 = .ok (.iload_n 1, 1) := by decide +kernel
theorem dX10_dropFirst_5 : decode cX10_dropFirst 5 = .ok (.dup2, 1) := by decide +kernel
theorem dX10_dropFirst_6 : decode cX10_dropFirst 6 = .ok (.iaload, 1) := by decide +kernel
theorem dX10_dropFirst_7 : decode cX10_dropFirst 7 = .ok (.iconst 1, 1) := by decide +kernel
theorem dX10_dropFirst_8 : decode cX10_dropFirst 8 = .ok (.isub, 1) := by decide +kernel
theorem dX10_dropFirst_9 : decode cX10_dropFirst 9 = .ok (.iastore, 1) := by decide +kernel
theorem dX10_dropFirst_10 : decode cX10_dropFirst 10 = .ok (.iconst 0, 1) := by decide +kernel
theorem dX10_dropFirst_11 : decode cX10_dropFirst 11 = .ok (.istore_n 2, 1) := by decide +kernel
theorem dX10_dropFirst_12 : decode cX10_dropFirst 12 = .ok (.iload_n 2, 1) := by decide +kernel
theorem dX10_dropFirst_13 : decode cX10_dropFirst 13 = .ok (.aload_n 0, 1) := by decide +kernel
theorem dX10_dropFirst_14 : decode cX10_dropFirst 14 = .ok (.getfield 35, 3) := by decide +kernel
theorem dX10_dropFirst_17 : decode cX10_dropFirst 17 = .ok (.iload_n 1, 1) := by decide +kernel
theorem dX10_dropFirst_18 : decode cX10_dropFirst 18 = .ok (.iaload, 1) := by decide +kernel
theorem dX10_dropFirst_19 : decode cX10_dropFirst 19 = .ok (.if_icmp .ge 35, 3) := by decide +kernel
theorem dX10_dropFirst_22 : decode cX10_dropFirst 22 = .ok (.aload_n 0, 1) := by decide +kernel
theorem dX10_dropFirst_23 : decode cX10_dropFirst 23 = .ok (.getfield 32, 3) := by decide +kernel
theorem dX10_dropFirst_26 : decode cX10_dropFirst 26 = .ok (.iload_n 1, 1) := by decide +kernel
theorem dX10_dropFirst_27 : decode cX10_dropFirst 27 = .ok (.sipush 480, 3) := by decide +kernel
theorem dX10_dropFirst_30 : decode cX10_dropFirst 30 = .ok (.imul, 1) := by decide +kernel
theorem dX10_dropFirst_31 : decode cX10_dropFirst 31 = .ok (.iload_n 2, 1) := by decide +kernel
theorem dX10_dropFirst_32 : decode cX10_dropFirst 32 = .ok (.iadd, 1) := by decide +kernel
theorem dX10_dropFirst_33 : decode cX10_dropFirst 33 = .ok (.aload_n 0, 1) := by decide +kernel
theorem dX10_dropFirst_34 : decode cX10_dropFirst 34 = .ok (.getfield 32, 3) := by decide +kernel
theorem dX10_dropFirst_37 : decode cX10_dropFirst 37 = .ok (.iload_n 1, 1) := by decide +kernel
theorem dX10_dropFirst_38 : decode cX10_dropFirst 38 = .ok (.sipush 480, 3) := by decide +kernel
theorem dX10_dropFirst_41 : decode cX10_dropFirst 41 = .ok (.imul, 1) := by decide +kernel
theorem dX10_dropFirst_42 : decode cX10_dropFirst 42 = .ok (.iload_n 2, 1) := by decide +kernel
theorem dX10_dropFirst_43 : decode cX10_dropFirst 43 = .ok (.iadd, 1) := by decide +kernel
theorem dX10_dropFirst_44 : decode cX10_dropFirst 44 = .ok (.iconst 1, 1) := by decide +kernel
theorem dX10_dropFirst_45 : decode cX10_dropFirst 45 = .ok (.iadd, 1) := by decide +kernel
theorem dX10_dropFirst_46 : decode cX10_dropFirst 46 = .ok (.iaload, 1) := by decide +kernel
theorem dX10_dropFirst_47 : decode cX10_dropFirst 47 = .ok (.iastore, 1) := by decide +kernel
theorem dX10_dropFirst_48 : decode cX10_dropFirst 48 = .ok (.iinc 2 1, 3) := by decide +kernel
theorem dX10_dropFirst_51 : decode cX10_dropFirst 51 = .ok (.goto (-39), 3) := by decide +kernel
theorem dX10_dropFirst_54 : decode cX10_dropFirst 54 = .ok (.return_, 1) := by decide +kernel
theorem dX10_give_0 : decode cX10_give 0 = .ok (.aload_n 0, 1) := by decide +kernel
theorem dX10_give_1 : decode cX10_give 1 = .ok (.getfield 45, 3) := by decide +kernel
theorem dX10_give_4 : decode cX10_give 4 = .ok (.iload_n 1, 1) := by decide +kernel
theorem dX10_give_5 : decode cX10_give 5 = .ok (.aload_n 0, 1) := by decide +kernel
theorem dX10_give_6 : decode cX10_give 6 = .ok (.getfield 135, 3) := by decide +kernel
theorem dX10_give_9 : decode cX10_give 9 = .ok (.iastore, 1) := by decide +kernel
theorem dX10_give_10 : decode cX10_give 10 = .ok (.aload_n 0, 1) := by decide +kernel
theorem dX10_give_11 : decode cX10_give 11 = .ok (.getfield 48, 3) := by decide +kernel
theorem dX10_give_14 : decode cX10_give 14 = .ok (.iload_n 1, 1) := by decide +kernel
theorem dX10_give_15 : decode cX10_give 15 = .ok (.aload_n 0, 1) := by decide +kernel
theorem dX10_give_16 : decode cX10_give 16 = .ok (.getfield 138, 3) := by decide +kernel
theorem dX10_give_19 : decode cX10_give 19 = .ok (.iastore, 1) := by decide +kernel
theorem dX10_give_20 : decode cX10_give 20 = .ok (.aload_n 0, 1) := by decide +kernel
theorem dX10_give_21 : decode cX10_give 21 = .ok (.getfield 51, 3) := by decide +kernel
theorem dX10_give_24 : decode cX10_give 24 = .ok (.iload_n 1, 1) := by decide +kernel
theorem dX10_give_25 : decode cX10_give 25 = .ok (.aload_n 0, 1) := by decide +kernel
theorem dX10_give_26 : decode cX10_give 26 = .ok (.getfield 141, 3) := by decide +kernel
theorem dX10_give_29 : decode cX10_give 29 = .ok (.iastore, 1) := by decide +kernel
theorem dX10_give_30 : decode cX10_give 30 = .ok (.aload_n 0, 1) := by decide +kernel
theorem dX10_give_31 : decode cX10_give 31 = .ok (.getfield 54, 3) := by decide +kernel
theorem dX10_give_34 : decode cX10_give 34 = .ok (.iload_n 1, 1) := by decide +kernel
theorem dX10_give_35 : decode cX10_give 35 = .ok (.aload_n 0, 1) := by decide +kernel
theorem dX10_give_36 : decode cX10_give 36 = .ok (.getfield 144, 3) := by decide +kernel
theorem dX10_give_39 : decode cX10_give 39 = .ok (.iastore, 1) := by decide +kernel
theorem dX10_give_40 : decode cX10_give 40 = .ok (.aload_n 0, 1) := by decide +kernel
theorem dX10_give_41 : decode cX10_give 41 = .ok (.getfield 57, 3) := by decide +kernel
theorem dX10_give_44 : decode cX10_give 44 = .ok (.iload_n 1, 1) := by decide +kernel
theorem dX10_give_45 : decode cX10_give 45 = .ok (.aload_n 0, 1) := by decide +kernel
theorem dX10_give_46 : decode cX10_give 46 = .ok (.getfield 147, 3) := by decide +kernel
theorem dX10_give_49 : decode cX10_give 49 = .ok (.iastore, 1) := by decide +kernel
theorem dX10_give_50 : decode cX10_give 50 = .ok (.return_, 1) := by decide +kernel
theorem dX10_answer_0 : decode cX10_answer 0 = .ok (.iload_n 1, 1) := by decide +kernel
theorem dX10_answer_1 : decode cX10_answer 1 = .ok (.invokestatic 190, 3) := by decide +kernel
theorem dX10_answer_4 : decode cX10_answer 4 = .ok (.ifCond .eq 12, 3) := by decide +kernel
theorem dX10_answer_7 : decode cX10_answer 7 = .ok (.iload_n 2, 1) := by decide +kernel
theorem dX10_answer_8 : decode cX10_answer 8 = .ok (.iconst 0, 1) := by decide +kernel
theorem dX10_answer_9 : decode cX10_answer 9 = .ok (.iconst 3, 1) := by decide +kernel
theorem dX10_answer_10 : decode cX10_answer 10 = .ok (.invokestatic 123, 3) := by decide +kernel
theorem dX10_answer_13 : decode cX10_answer 13 = .ok (.ifCond .ne 5, 3) := by decide +kernel
theorem dX10_answer_16 : decode cX10_answer 16 = .ok (.iconst (-1), 1) := by decide +kernel
theorem dX10_answer_17 : decode cX10_answer 17 = .ok (.ireturn, 1) := by decide +kernel
theorem dX10_answer_18 : decode cX10_answer 18 = .ok (.aload_n 0, 1) := by decide +kernel
theorem dX10_answer_19 : decode cX10_answer 19 = .ok (.getfield 35, 3) := by decide +kernel
theorem dX10_answer_22 : decode cX10_answer 22 = .ok (.iload_n 1, 1) := by decide +kernel
theorem dX10_answer_23 : decode cX10_answer 23 = .ok (.iaload, 1) := by decide +kernel
theorem dX10_answer_24 : decode cX10_answer 24 = .ok (.ifCond .ne 6, 3) := by decide +kernel
theorem dX10_answer_27 : decode cX10_answer 27 = .ok (.bipush (-4), 2) := by decide +kernel
theorem dX10_answer_29 : decode cX10_answer 29 = .ok (.ireturn, 1) := by decide +kernel
theorem dX10_answer_30 : decode cX10_answer 30 = .ok (.aload_n 0, 1) := by decide +kernel
theorem dX10_answer_31 : decode cX10_answer 31 = .ok (.getfield 207, 3) := by decide +kernel
theorem dX10_answer_34 : decode cX10_answer 34 = .ok (.sipush 3000, 3) := by decide +kernel
theorem dX10_answer_37 : decode cX10_answer 37 = .ok (.if_icmp .ne 6, 3) := by decide +kernel
theorem dX10_answer_40 : decode cX10_answer 40 = .ok (.bipush (-2), 2) := by decide +kernel
theorem dX10_answer_42 : decode cX10_answer 42 = .ok (.ireturn, 1) := by decide +kernel
theorem dX10_answer_43 : decode cX10_answer 43 = .ok (.aload_n 0, 1) := by decide +kernel
theorem dX10_answer_44 : decode cX10_answer 44 = .ok (.getfield 32, 3) := by decide +kernel
theorem dX10_answer_47 : decode cX10_answer 47 = .ok (.iload_n 1, 1) := by decide +kernel
theorem dX10_answer_48 : decode cX10_answer 48 = .ok (.sipush 480, 3) := by decide +kernel
theorem dX10_answer_51 : decode cX10_answer 51 = .ok (.imul, 1) := by decide +kernel
theorem dX10_answer_52 : decode cX10_answer 52 = .ok (.iaload, 1) := by decide +kernel
theorem dX10_answer_53 : decode cX10_answer 53 = .ok (.istore_n 3, 1) := by decide +kernel
theorem dX10_answer_54 : decode cX10_answer 54 = .ok (.iload_n 1, 1) := by decide +kernel
theorem dX10_answer_55 : decode cX10_answer 55 = .ok (.sipush 480, 3) := by decide +kernel
theorem dX10_answer_58 : decode cX10_answer 58 = .ok (.imul, 1) := by decide +kernel
theorem dX10_answer_59 : decode cX10_answer 59 = .ok (.iload_n 3, 1) := by decide +kernel
theorem dX10_answer_60 : decode cX10_answer 60 = .ok (.iadd, 1) := by decide +kernel
theorem dX10_answer_61 : decode cX10_answer 61 = .ok (.istore 4, 2) := by decide +kernel
theorem dX10_answer_63 : decode cX10_answer 63 = .ok (.aload_n 0, 1) := by decide +kernel
theorem dX10_answer_64 : decode cX10_answer 64 = .ok (.getfield 60, 3) := by decide +kernel
theorem dX10_answer_67 : decode cX10_answer 67 = .ok (.aload_n 0, 1) := by decide +kernel
theorem dX10_answer_68 : decode cX10_answer 68 = .ok (.getfield 207, 3) := by decide +kernel
theorem dX10_answer_71 : decode cX10_answer 71 = .ok (.iload 4, 2) := by decide +kernel
theorem dX10_answer_73 : decode cX10_answer 73 = .ok (.iastore, 1) := by decide +kernel
theorem dX10_answer_74 : decode cX10_answer 74 = .ok (.aload_n 0, 1) := by decide +kernel
theorem dX10_answer_75 : decode cX10_answer 75 = .ok (.getfield 63, 3) := by decide +kernel
theorem dX10_answer_78 : decode cX10_answer 78 = .ok (.aload_n 0, 1) := by decide +kernel
theorem dX10_answer_79 : decode cX10_answer 79 = .ok (.getfield 207, 3) := by decide +kernel
theorem dX10_answer_82 : decode cX10_answer 82 = .ok (.aload_n 0, 1) := by decide +kernel
theorem dX10_answer_83 : decode cX10_answer 83 = .ok (.getfield 29, 3) := by decide +kernel
theorem dX10_answer_86 : decode cX10_answer 86 = .ok (.iload_n 1, 1) := by decide +kernel
theorem dX10_answer_87 : decode cX10_answer 87 = .ok (.iaload, 1) := by decide +kernel
theorem dX10_answer_88 : decode cX10_answer 88 = .ok (.iastore, 1) := by decide +kernel
theorem dX10_answer_89 : decode cX10_answer 89 = .ok (.aload_n 0, 1) := by decide +kernel
theorem dX10_answer_90 : decode cX10_answer 90 = .ok (.getfield 66, 3) := by decide +kernel
theorem dX10_answer_93 : decode cX10_answer 93 = .ok (.aload_n 0, 1) := by decide +kernel
theorem dX10_answer_94 : decode cX10_answer 94 = .ok (.getfield 207, 3) := by decide +kernel
theorem dX10_answer_97 : decode cX10_answer 97 = .ok (.iload_n 2, 1) := by decide +kernel
theorem dX10_answer_98 : decode cX10_answer 98 = .ok (.iastore, 1) := by decide +kernel
theorem dX10_answer_99 : decode cX10_answer 99 = .ok (.aload_n 0, 1) := by decide +kernel
theorem dX10_answer_100 : decode cX10_answer 100 = .ok (.getfield 69, 3) := by decide +kernel
theorem dX10_answer_103 : decode cX10_answer 103 = .ok (.aload_n 0, 1) := by decide +kernel
theorem dX10_answer_104 : decode cX10_answer 104 = .ok (.getfield 207, 3) := by decide +kernel
theorem dX10_answer_107 : decode cX10_answer 107 = .ok (.aload_n 0, 1) := by decide +kernel
theorem dX10_answer_108 : decode cX10_answer 108 = .ok (.getfield 131, 3) := by decide +kernel
theorem dX10_answer_111 : decode cX10_answer 111 = .ok (.iastore, 1) := by decide +kernel
theorem dX10_answer_112 : decode cX10_answer 112 = .ok (.aload_n 0, 1) := by decide +kernel
theorem dX10_answer_113 : decode cX10_answer 113 = .ok (.getfield 72, 3) := by decide +kernel
theorem dX10_answer_116 : decode cX10_answer 116 = .ok (.aload_n 0, 1) := by decide +kernel
theorem dX10_answer_117 : decode cX10_answer 117 = .ok (.getfield 207, 3) := by decide +kernel
theorem dX10_answer_120 : decode cX10_answer 120 = .ok (.aload_n 0, 1) := by decide +kernel
theorem dX10_answer_121 : decode cX10_answer 121 = .ok (.getfield 19, 3) := by decide +kernel
theorem dX10_answer_124 : decode cX10_answer 124 = .ok (.iload_n 2, 1) := by decide +kernel
theorem dX10_answer_125 : decode cX10_answer 125 = .ok (.iaload, 1) := by decide +kernel
theorem dX10_answer_126 : decode cX10_answer 126 = .ok (.iastore, 1) := by decide +kernel
theorem dX10_answer_127 : decode cX10_answer 127 = .ok (.aload_n 0, 1) := by decide +kernel
theorem dX10_answer_128 : decode cX10_answer 128 = .ok (.getfield 75, 3) := by decide +kernel
theorem dX10_answer_131 : decode cX10_answer 131 = .ok (.aload_n 0, 1) := by decide +kernel
theorem dX10_answer_132 : decode cX10_answer 132 = .ok (.getfield 207, 3) := by decide +kernel
theorem dX10_answer_135 : decode cX10_answer 135 = .ok (.aload_n 0, 1) := by decide +kernel
theorem dX10_answer_136 : decode cX10_answer 136 = .ok (.getfield 45, 3) := by decide +kernel
theorem dX10_answer_139 : decode cX10_answer 139 = .ok (.iload 4, 2) := by decide +kernel
theorem dX10_answer_141 : decode cX10_answer 141 = .ok (.iaload, 1) := by decide +kernel
theorem dX10_answer_142 : decode cX10_answer 142 = .ok (.iastore, 1) := by decide +kernel
theorem dX10_answer_143 : decode cX10_answer 143 = .ok (.aload_n 0, 1) := by decide +kernel
theorem dX10_answer_144 : decode cX10_answer 144 = .ok (.getfield 78, 3) := by decide +kernel
theorem dX10_answer_147 : decode cX10_answer 147 = .ok (.aload_n 0, 1) := by decide +kernel
theorem dX10_answer_148 : decode cX10_answer 148 = .ok (.getfield 207, 3) := by decide +kernel
theorem dX10_answer_151 : decode cX10_answer 151 = .ok (.aload_n 0, 1) := by decide +kernel
theorem dX10_answer_152 : decode cX10_answer 152 = .ok (.getfield 48, 3) := by decide +kernel
theorem dX10_answer_155 : decode cX10_answer 155 = .ok (.iload 4, 2) := by decide +kernel
theorem dX10_answer_157 : decode cX10_answer 157 = .ok (.iaload, 1) := by decide +kernel
theorem dX10_answer_158 : decode cX10_answer 158 = .ok (.iastore, 1) := by decide +kernel
theorem dX10_answer_159 : decode cX10_answer 159 = .ok (.aload_n 0, 1) := by decide +kernel
theorem dX10_answer_160 : decode cX10_answer 160 = .ok (.getfield 81, 3) := by decide +kernel
theorem dX10_answer_163 : decode cX10_answer 163 = .ok (.aload_n 0, 1) := by decide +kernel
theorem dX10_answer_164 : decode cX10_answer 164 = .ok (.getfield 207, 3) := by decide +kernel
theorem dX10_answer_167 : decode cX10_answer 167 = .ok (.aload_n 0, 1) := by decide +kernel
theorem dX10_answer_168 : decode cX10_answer 168 = .ok (.getfield 51, 3) := by decide +kernel
theorem dX10_answer_171 : decode cX10_answer 171 = .ok (.iload 4, 2) := by decide +kernel
theorem dX10_answer_173 : decode cX10_answer 173 = .ok (.iaload, 1) := by decide +kernel
theorem dX10_answer_174 : decode cX10_answer 174 = .ok (.iastore, 1) := by decide +kernel
theorem dX10_answer_175 : decode cX10_answer 175 = .ok (.aload_n 0, 1) := by decide +kernel
theorem dX10_answer_176 : decode cX10_answer 176 = .ok (.getfield 84, 3) := by decide +kernel
theorem dX10_answer_179 : decode cX10_answer 179 = .ok (.aload_n 0, 1) := by decide +kernel
theorem dX10_answer_180 : decode cX10_answer 180 = .ok (.getfield 207, 3) := by decide +kernel
theorem dX10_answer_183 : decode cX10_answer 183 = .ok (.aload_n 0, 1) := by decide +kernel
theorem dX10_answer_184 : decode cX10_answer 184 = .ok (.getfield 54, 3) := by decide +kernel
theorem dX10_answer_187 : decode cX10_answer 187 = .ok (.iload 4, 2) := by decide +kernel
theorem dX10_answer_189 : decode cX10_answer 189 = .ok (.iaload, 1) := by decide +kernel
theorem dX10_answer_190 : decode cX10_answer 190 = .ok (.iastore, 1) := by decide +kernel
theorem dX10_answer_191 : decode cX10_answer 191 = .ok (.aload_n 0, 1) := by decide +kernel
theorem dX10_answer_192 : decode cX10_answer 192 = .ok (.getfield 87, 3) := by decide +kernel
theorem dX10_answer_195 : decode cX10_answer 195 = .ok (.aload_n 0, 1) := by decide +kernel
theorem dX10_answer_196 : decode cX10_answer 196 = .ok (.getfield 207, 3) := by decide +kernel
theorem dX10_answer_199 : decode cX10_answer 199 = .ok (.aload_n 0, 1) := by decide +kernel
theorem dX10_answer_200 : decode cX10_answer 200 = .ok (.getfield 57, 3) := by decide +kernel
theorem dX10_answer_203 : decode cX10_answer 203 = .ok (.iload 4, 2) := by decide +kernel
theorem dX10_answer_205 : decode cX10_answer 205 = .ok (.iaload, 1) := by decide +kernel
theorem dX10_answer_206 : decode cX10_answer 206 = .ok (.iastore, 1) := by decide +kernel
theorem dX10_answer_207 : decode cX10_answer 207 = .ok (.aload_n 0, 1) := by decide +kernel
theorem dX10_answer_208 : decode cX10_answer 208 = .ok (.dup, 1) := by decide +kernel
theorem dX10_answer_209 : decode cX10_answer 209 = .ok (.getfield 207, 3) := by decide +kernel
theorem dX10_answer_212 : decode cX10_answer 212 = .ok (.iconst 1, 1) := by decide +kernel
theorem dX10_answer_213 : decode cX10_answer 213 = .ok (.iadd, 1) := by decide +kernel
theorem dX10_answer_214 : decode cX10_answer 214 = .ok (.putfield 207, 3) := by decide +kernel
theorem dX10_answer_217 : decode cX10_answer 217 = .ok (.aload_n 0, 1) := by decide +kernel
theorem dX10_answer_218 : decode cX10_answer 218 = .ok (.iload 4, 2) := by decide +kernel
theorem dX10_answer_220 : decode cX10_answer 220 = .ok (.invokevirtual 180, 3) := by decide +kernel
theorem dX10_answer_223 : decode cX10_answer 223 = .ok (.aload_n 0, 1) := by decide +kernel
theorem dX10_answer_224 : decode cX10_answer 224 = .ok (.aload_n 0, 1) := by decide +kernel
theorem dX10_answer_225 : decode cX10_answer 225 = .ok (.getfield 131, 3) := by decide +kernel
theorem dX10_answer_228 : decode cX10_answer 228 = .ok (.aload_n 0, 1) := by decide +kernel
theorem dX10_answer_229 : decode cX10_answer 229 = .ok (.getfield 19, 3) := by decide +kernel
theorem dX10_answer_232 : decode cX10_answer 232 = .ok (.iload_n 2, 1) := by decide +kernel
theorem dX10_answer_233 : decode cX10_answer 233 = .ok (.iaload, 1) := by decide +kernel
theorem dX10_answer_234 : decode cX10_answer 234 = .ok (.iload_n 2, 1) := by decide +kernel
theorem dX10_answer_235 : decode cX10_answer 235 = .ok (.aload_n 0, 1) := by decide +kernel
theorem dX10_answer_236 : decode cX10_answer 236 = .ok (.getfield 29, 3) := by decide +kernel
theorem dX10_answer_239 : decode cX10_answer 239 = .ok (.iload_n 1, 1) := by decide +kernel
theorem dX10_answer_240 : decode cX10_answer 240 = .ok (.iaload, 1) := by decide +kernel
theorem dX10_answer_241 : decode cX10_answer 241 = .ok (.invokevirtual 210, 3) := by decide +kernel
theorem dX10_answer_244 : decode cX10_answer 244 = .ok (.aload_n 0, 1) := by decide +kernel
theorem dX10_answer_245 : decode cX10_answer 245 = .ok (.iload 4, 2) := by decide +kernel
theorem dX10_answer_247 : decode cX10_answer 247 = .ok (.invokevirtual 214, 3) := by decide +kernel
theorem dX10_answer_250 : decode cX10_answer 250 = .ok (.aload_n 0, 1) := by decide +kernel
theorem dX10_answer_251 : decode cX10_answer 251 = .ok (.iload_n 1, 1) := by decide +kernel
theorem dX10_answer_252 : decode cX10_answer 252 = .ok (.invokevirtual 217, 3) := by decide +kernel
theorem dX10_answer_255 : decode cX10_answer 255 = .ok (.iload_n 2, 1) := by decide +kernel
theorem dX10_answer_256 : decode cX10_answer 256 = .ok (.ifCond .ne 60, 3) := by decide +kernel
theorem dX10_answer_259 : decode cX10_answer 259 = .ok (.aload_n 0, 1) := by decide +kernel
theorem dX10_answer_260 : decode cX10_answer 260 = .ok (.getfield 38, 3) := by decide +kernel
theorem dX10_answer_263 : decode cX10_answer 263 = .ok (.iload 4, 2) := by decide +kernel
theorem dX10_answer_265 : decode cX10_answer 265 = .ok (.iaload, 1) := by decide +kernel
theorem dX10_answer_266 : decode cX10_answer 266 = .ok (.iconst 2, 1) := by decide +kernel
theorem dX10_answer_267 : decode cX10_answer 267 = .ok (.if_icmp .ge 49, 3) := by decide +kernel
theorem dX10_answer_270 : decode cX10_answer 270 = .ok (.aload_n 0, 1) := by decide +kernel
theorem dX10_answer_271 : decode cX10_answer 271 = .ok (.invokevirtual 176, 3) := by decide +kernel
theorem dX10_answer_274 : decode cX10_answer 274 = .ok (.ifCond .ne 42, 3) := by decide +kernel
theorem dX10_answer_277 : decode cX10_answer 277 = .ok (.aload_n 0, 1) := by decide +kernel
theorem dX10_answer_278 : decode cX10_answer 278 = .ok (.getfield 38, 3) := by decide +kernel
theorem dX10_answer_281 : decode cX10_answer 281 = .ok (.iload 4, 2) := by decide +kernel
theorem dX10_answer_283 : decode cX10_answer 283 = .ok (.dup2, 1) := by decide +kernel
theorem dX10_answer_284 : decode cX10_answer 284 = .ok (.iaload, 1) := by decide +kernel
theorem dX10_answer_285 : decode cX10_answer 285 = .ok (.iconst 1, 1) := by decide +kernel
theorem dX10_answer_286 : decode cX10_answer 286 = .ok (.iadd, 1) := by decide +kernel
theorem dX10_answer_287 : decode cX10_answer 287 = .ok (.iastore, 1) := by decide +kernel
theorem dX10_answer_288 : decode cX10_answer 288 = .ok (.aload_n 0, 1) := by decide +kernel
theorem dX10_answer_289 : decode cX10_answer 289 = .ok (.getfield 32, 3) := by decide +kernel
theorem dX10_answer_292 : decode cX10_answer 292 = .ok (.iload_n 1, 1) := by decide +kernel
theorem dX10_answer_293 : decode cX10_answer 293 = .ok (.sipush 480, 3) := by decide +kernel
theorem dX10_answer_296 : decode cX10_answer 296 = .ok (.imul, 1) := by decide +kernel
theorem dX10_answer_297 : decode cX10_answer 297 = .ok (.aload_n 0, 1) := by decide +kernel
theorem dX10_answer_298 : decode cX10_answer 298 = .ok (.getfield 35, 3) := by decide +kernel
theorem dX10_answer_301 : decode cX10_answer 301 = .ok (.iload_n 1, 1) := by decide +kernel
theorem dX10_answer_302 : decode cX10_answer 302 = .ok (.iaload, 1) := by decide +kernel
theorem dX10_answer_303 : decode cX10_answer 303 = .ok (.iadd, 1) := by decide +kernel
theorem dX10_answer_304 : decode cX10_answer 304 = .ok (.iload_n 3, 1) := by decide +kernel
theorem dX10_answer_305 : decode cX10_answer 305 = .ok (.iastore, 1) := by decide +kernel
theorem dX10_answer_306 : decode cX10_answer 306 = .ok (.aload_n 0, 1) := by decide +kernel
theorem dX10_answer_307 : decode cX10_answer 307 = .ok (.getfield 35, 3) := by decide +kernel
theorem dX10_answer_310 : decode cX10_answer 310 = .ok (.iload_n 1, 1) := by decide +kernel
theorem dX10_answer_311 : decode cX10_answer 311 = .ok (.dup2, 1) := by decide +kernel
theorem dX10_answer_312 : decode cX10_answer 312 = .ok (.iaload, 1) := by decide +kernel
theorem dX10_answer_313 : decode cX10_answer 313 = .ok (.iconst 1, 1) := by decide +kernel
theorem dX10_answer_314 : decode cX10_answer 314 = .ok (.iadd, 1) := by decide +kernel
theorem dX10_answer_315 : decode cX10_answer 315 = .ok (.iastore, 1) := by decide +kernel
theorem dX10_answer_316 : decode cX10_answer 316 = .ok (.aload_n 0, 1) := by decide +kernel
theorem dX10_answer_317 : decode cX10_answer 317 = .ok (.getfield 35, 3) := by decide +kernel
theorem dX10_answer_320 : decode cX10_answer 320 = .ok (.iload_n 1, 1) := by decide +kernel
theorem dX10_answer_321 : decode cX10_answer 321 = .ok (.iaload, 1) := by decide +kernel
theorem dX10_answer_322 : decode cX10_answer 322 = .ok (.ireturn, 1) := by decide +kernel
theorem dX10_skip_0 : decode cX10_skip 0 = .ok (.iload_n 1, 1) := by decide +kernel
theorem dX10_skip_1 : decode cX10_skip 1 = .ok (.invokestatic 190, 3) := by decide +kernel
theorem dX10_skip_4 : decode cX10_skip 4 = .ok (.ifCond .ne 5, 3) := by decide +kernel
theorem dX10_skip_7 : decode cX10_skip 7 = .ok (.iconst (-1), 1) := by decide +kernel
theorem dX10_skip_8 : decode cX10_skip 8 = .ok (.ireturn, 1) := by decide +kernel
theorem dX10_skip_9 : decode cX10_skip 9 = .ok (.aload_n 0, 1) := by decide +kernel
theorem dX10_skip_10 : decode cX10_skip 10 = .ok (.getfield 35, 3) := by decide +kernel
theorem dX10_skip_13 : decode cX10_skip 13 = .ok (.iload_n 1, 1) := by decide +kernel
theorem dX10_skip_14 : decode cX10_skip 14 = .ok (.iaload, 1) := by decide +kernel
theorem dX10_skip_15 : decode cX10_skip 15 = .ok (.ifCond .ne 6, 3) := by decide +kernel
theorem dX10_skip_18 : decode cX10_skip 18 = .ok (.bipush (-4), 2) := by decide +kernel
theorem dX10_skip_20 : decode cX10_skip 20 = .ok (.ireturn, 1) := by decide +kernel
theorem dX10_skip_21 : decode cX10_skip 21 = .ok (.aload_n 0, 1) := by decide +kernel
theorem dX10_skip_22 : decode cX10_skip 22 = .ok (.getfield 32, 3) := by decide +kernel
theorem dX10_skip_25 : decode cX10_skip 25 = .ok (.iload_n 1, 1) := by decide +kernel
theorem dX10_skip_26 : decode cX10_skip 26 = .ok (.sipush 480, 3) := by decide +kernel
theorem dX10_skip_29 : decode cX10_skip 29 = .ok (.imul, 1) := by decide +kernel
theorem dX10_skip_30 : decode cX10_skip 30 = .ok (.iaload, 1) := by decide +kernel
theorem dX10_skip_31 : decode cX10_skip 31 = .ok (.istore_n 2, 1) := by decide +kernel
theorem dX10_skip_32 : decode cX10_skip 32 = .ok (.aload_n 0, 1) := by decide +kernel
theorem dX10_skip_33 : decode cX10_skip 33 = .ok (.iload_n 1, 1) := by decide +kernel
theorem dX10_skip_34 : decode cX10_skip 34 = .ok (.invokevirtual 217, 3) := by decide +kernel
theorem dX10_skip_37 : decode cX10_skip 37 = .ok (.aload_n 0, 1) := by decide +kernel
theorem dX10_skip_38 : decode cX10_skip 38 = .ok (.getfield 32, 3) := by decide +kernel
theorem dX10_skip_41 : decode cX10_skip 41 = .ok (.iload_n 1, 1) := by decide +kernel
theorem dX10_skip_42 : decode cX10_skip 42 = .ok (.sipush 480, 3) := by decide +kernel
theorem dX10_skip_45 : decode cX10_skip 45 = .ok (.imul, 1) := by decide +kernel
theorem dX10_skip_46 : decode cX10_skip 46 = .ok (.aload_n 0, 1) := by decide +kernel
theorem dX10_skip_47 : decode cX10_skip 47 = .ok (.getfield 35, 3) := by decide +kernel
theorem dX10_skip_50 : decode cX10_skip 50 = .ok (.iload_n 1, 1) := by decide +kernel
theorem dX10_skip_51 : decode cX10_skip 51 = .ok (.iaload, 1) := by decide +kernel
theorem dX10_skip_52 : decode cX10_skip 52 = .ok (.iadd, 1) := by decide +kernel
theorem dX10_skip_53 : decode cX10_skip 53 = .ok (.iload_n 2, 1) := by decide +kernel
theorem dX10_skip_54 : decode cX10_skip 54 = .ok (.iastore, 1) := by decide +kernel
theorem dX10_skip_55 : decode cX10_skip 55 = .ok (.aload_n 0, 1) := by decide +kernel
theorem dX10_skip_56 : decode cX10_skip 56 = .ok (.getfield 35, 3) := by decide +kernel
theorem dX10_skip_59 : decode cX10_skip 59 = .ok (.iload_n 1, 1) := by decide +kernel
theorem dX10_skip_60 : decode cX10_skip 60 = .ok (.dup2, 1) := by decide +kernel
theorem dX10_skip_61 : decode cX10_skip 61 = .ok (.iaload, 1) := by decide +kernel
theorem dX10_skip_62 : decode cX10_skip 62 = .ok (.iconst 1, 1) := by decide +kernel
theorem dX10_skip_63 : decode cX10_skip 63 = .ok (.iadd, 1) := by decide +kernel
theorem dX10_skip_64 : decode cX10_skip 64 = .ok (.iastore, 1) := by decide +kernel
theorem dX10_skip_65 : decode cX10_skip 65 = .ok (.aload_n 0, 1) := by decide +kernel
theorem dX10_skip_66 : decode cX10_skip 66 = .ok (.getfield 35, 3) := by decide +kernel
theorem dX10_skip_69 : decode cX10_skip 69 = .ok (.iload_n 1, 1) := by decide +kernel
theorem dX10_skip_70 : decode cX10_skip 70 = .ok (.iaload, 1) := by decide +kernel
theorem dX10_skip_71 : decode cX10_skip 71 = .ok (.ireturn, 1) := by decide +kernel
theorem dX10_bury_0 : decode cX10_bury 0 = .ok (.iload_n 1, 1) := by decide +kernel
theorem dX10_bury_1 : decode cX10_bury 1 = .ok (.invokestatic 190, 3) := by decide +kernel
theorem dX10_bury_4 : decode cX10_bury 4 = .ok (.ifCond .eq 31, 3) := by decide +kernel
theorem dX10_bury_7 : decode cX10_bury 7 = .ok (.aload_n 0, 1) := by decide +kernel
theorem dX10_bury_8 : decode cX10_bury 8 = .ok (.iload_n 2, 1) := by decide +kernel
theorem dX10_bury_9 : decode cX10_bury 9 = .ok (.iload_n 3, 1) := by decide +kernel
theorem dX10_bury_10 : decode cX10_bury 10 = .ok (.invokevirtual 220, 3) := by decide +kernel
theorem dX10_bury_13 : decode cX10_bury 13 = .ok (.ifCond .eq 22, 3) := by decide +kernel
theorem dX10_bury_16 : decode cX10_bury 16 = .ok (.aload_n 0, 1) := by decide +kernel
theorem dX10_bury_17 : decode cX10_bury 17 = .ok (.getfield 41, 3) := by decide +kernel
theorem dX10_bury_20 : decode cX10_bury 20 = .ok (.iload_n 1, 1) := by decide +kernel
theorem dX10_bury_21 : decode cX10_bury 21 = .ok (.sipush 480, 3) := by decide +kernel
theorem dX10_bury_24 : decode cX10_bury 24 = .ok (.imul, 1) := by decide +kernel
theorem dX10_bury_25 : decode cX10_bury 25 = .ok (.iconst 4, 1) := by decide +kernel
theorem dX10_bury_26 : decode cX10_bury 26 = .ok (.iload_n 2, 1) := by decide +kernel
theorem dX10_bury_27 : decode cX10_bury 27 = .ok (.imul, 1) := by decide +kernel
theorem dX10_bury_28 : decode cX10_bury 28 = .ok (.iadd, 1) := by decide +kernel
theorem dX10_bury_29 : decode cX10_bury 29 = .ok (.iload_n 3, 1) := by decide +kernel
theorem dX10_bury_30 : decode cX10_bury 30 = .ok (.iadd, 1) := by decide +kernel
theorem dX10_bury_31 : decode cX10_bury 31 = .ok (.baload, 1) := by decide +kernel
theorem dX10_bury_32 : decode cX10_bury 32 = .ok (.ifCond .eq 5, 3) := by decide +kernel
theorem dX10_bury_35 : decode cX10_bury 35 = .ok (.iconst (-1), 1) := by decide +kernel
theorem dX10_bury_36 : decode cX10_bury 36 = .ok (.ireturn, 1) := by decide +kernel
theorem dX10_bury_37 : decode cX10_bury 37 = .ok (.aload_n 0, 1) := by decide +kernel
theorem dX10_bury_38 : decode cX10_bury 38 = .ok (.getfield 41, 3) := by decide +kernel
theorem dX10_bury_41 : decode cX10_bury 41 = .ok (.iload_n 1, 1) := by decide +kernel
theorem dX10_bury_42 : decode cX10_bury 42 = .ok (.sipush 480, 3) := by decide +kernel
theorem dX10_bury_45 : decode cX10_bury 45 = .ok (.imul, 1) := by decide +kernel
theorem dX10_bury_46 : decode cX10_bury 46 = .ok (.iconst 4, 1) := by decide +kernel
theorem dX10_bury_47 : decode cX10_bury 47 = .ok (.iload_n 2, 1) := by decide +kernel
theorem dX10_bury_48 : decode cX10_bury 48 = .ok (.imul, 1) := by decide +kernel
theorem dX10_bury_49 : decode cX10_bury 49 = .ok (.iadd, 1) := by decide +kernel
theorem dX10_bury_50 : decode cX10_bury 50 = .ok (.iload_n 3, 1) := by decide +kernel
theorem dX10_bury_51 : decode cX10_bury 51 = .ok (.iadd, 1) := by decide +kernel
theorem dX10_bury_52 : decode cX10_bury 52 = .ok (.iconst 1, 1) := by decide +kernel
theorem dX10_bury_53 : decode cX10_bury 53 = .ok (.bastore, 1) := by decide +kernel
theorem dX10_bury_54 : decode cX10_bury 54 = .ok (.iconst 0, 1) := by decide +kernel
theorem dX10_bury_55 : decode cX10_bury 55 = .ok (.istore 4, 2) := by decide +kernel
theorem dX10_bury_57 : decode cX10_bury 57 = .ok (.iconst 0, 1) := by decide +kernel
theorem dX10_bury_58 : decode cX10_bury 58 = .ok (.istore 5, 2) := by decide +kernel
theorem dX10_bury_60 : decode cX10_bury 60 = .ok (.iload 5, 2) := by decide +kernel
theorem dX10_bury_62 : decode cX10_bury 62 = .ok (.aload_n 0, 1) := by decide +kernel
theorem dX10_bury_63 : decode cX10_bury 63 = .ok (.getfield 35, 3) := by decide +kernel
theorem dX10_bury_66 : decode cX10_bury 66 = .ok (.iload_n 1, 1) := by decide +kernel
theorem dX10_bury_67 : decode cX10_bury 67 = .ok (.iaload, 1) := by decide +kernel
theorem dX10_bury_68 : decode cX10_bury 68 = .ok (.if_icmp .ge 59, 3) := by decide +kernel
theorem dX10_bury_71 : decode cX10_bury 71 = .ok (.aload_n 0, 1) := by decide +kernel
theorem dX10_bury_72 : decode cX10_bury 72 = .ok (.getfield 32, 3) := by decide +kernel
theorem dX10_bury_75 : decode cX10_bury 75 = .ok (.iload_n 1, 1) := by decide +kernel
theorem dX10_bury_76 : decode cX10_bury 76 = .ok (.sipush 480, 3) := by decide +kernel
theorem dX10_bury_79 : decode cX10_bury 79 = .ok (.imul, 1) := by decide +kernel
theorem dX10_bury_80 : decode cX10_bury 80 = .ok (.iload 5, 2) := by decide +kernel
theorem dX10_bury_82 : decode cX10_bury 82 = .ok (.iadd, 1) := by decide +kernel
theorem dX10_bury_83 : decode cX10_bury 83 = .ok (.iaload, 1) := by decide +kernel
theorem dX10_bury_84 : decode cX10_bury 84 = .ok (.iconst 4, 1) := by decide +kernel
theorem dX10_bury_85 : decode cX10_bury 85 = .ok (.iload_n 2, 1) := by decide +kernel
theorem dX10_bury_86 : decode cX10_bury 86 = .ok (.imul, 1) := by decide +kernel
theorem dX10_bury_87 : decode cX10_bury 87 = .ok (.iload_n 3, 1) := by decide +kernel
theorem dX10_bury_88 : decode cX10_bury 88 = .ok (.iadd, 1) := by decide +kernel
theorem dX10_bury_89 : decode cX10_bury 89 = .ok (.if_icmp .eq 32, 3) := by decide +kernel
theorem dX10_bury_92 : decode cX10_bury 92 = .ok (.aload_n 0, 1) := by decide +kernel
theorem dX10_bury_93 : decode cX10_bury 93 = .ok (.getfield 32, 3) := by decide +kernel
theorem dX10_bury_96 : decode cX10_bury 96 = .ok (.iload_n 1, 1) := by decide +kernel
theorem dX10_bury_97 : decode cX10_bury 97 = .ok (.sipush 480, 3) := by decide +kernel
theorem dX10_bury_100 : decode cX10_bury 100 = .ok (.imul, 1) := by decide +kernel
theorem dX10_bury_101 : decode cX10_bury 101 = .ok (.iload 4, 2) := by decide +kernel
theorem dX10_bury_103 : decode cX10_bury 103 = .ok (.iadd, 1) := by decide +kernel
theorem dX10_bury_104 : decode cX10_bury 104 = .ok (.aload_n 0, 1) := by decide +kernel
theorem dX10_bury_105 : decode cX10_bury 105 = .ok (.getfield 32, 3) := by decide +kernel
theorem dX10_bury_108 : decode cX10_bury 108 = .ok (.iload_n 1, 1) := by decide +kernel
theorem dX10_bury_109 : decode cX10_bury 109 = .ok (.sipush 480, 3) := by decide +kernel
theorem dX10_bury_112 : decode cX10_bury 112 = .ok (.imul, 1) := by decide +kernel
theorem dX10_bury_113 : decode cX10_bury 113 = .ok (.iload 5, 2) := by decide +kernel
theorem dX10_bury_115 : decode cX10_bury 115 = .ok (.iadd, 1) := by decide +kernel
theorem dX10_bury_116 : decode cX10_bury 116 = .ok (.iaload, 1) := by decide +kernel
theorem dX10_bury_117 : decode cX10_bury 117 = .ok (.iastore, 1) := by decide +kernel
theorem dX10_bury_118 : decode cX10_bury 118 = .ok (.iinc 4 1, 3) := by decide +kernel
theorem dX10_bury_121 : decode cX10_bury 121 = .ok (.iinc 5 1, 3) := by decide +kernel
theorem dX10_bury_124 : decode cX10_bury 124 = .ok (.goto (-64), 3) := by decide +kernel
theorem dX10_bury_127 : decode cX10_bury 127 = .ok (.aload_n 0, 1) := by decide +kernel
theorem dX10_bury_128 : decode cX10_bury 128 = .ok (.getfield 35, 3) := by decide +kernel
theorem dX10_bury_131 : decode cX10_bury 131 = .ok (.iload_n 1, 1) := by decide +kernel
theorem dX10_bury_132 : decode cX10_bury 132 = .ok (.iload 4, 2) := by decide +kernel
theorem dX10_bury_134 : decode cX10_bury 134 = .ok (.iastore, 1) := by decide +kernel
theorem dX10_bury_135 : decode cX10_bury 135 = .ok (.iload 4, 2) := by decide +kernel
theorem dX10_bury_137 : decode cX10_bury 137 = .ok (.ireturn, 1) := by decide +kernel
theorem dX10_undo_0 : decode cX10_undo 0 = .ok (.aload_n 0, 1) := by decide +kernel
theorem dX10_undo_1 : decode cX10_undo 1 = .ok (.getfield 207, 3) := by decide +kernel
theorem dX10_undo_4 : decode cX10_undo 4 = .ok (.ifCond .ne 6, 3) := by decide +kernel
theorem dX10_undo_7 : decode cX10_undo 7 = .ok (.bipush (-4), 2) := by decide +kernel
theorem dX10_undo_9 : decode cX10_undo 9 = .ok (.ireturn, 1) := by decide +kernel
theorem dX10_undo_10 : decode cX10_undo 10 = .ok (.aload_n 0, 1) := by decide +kernel
theorem dX10_undo_11 : decode cX10_undo 11 = .ok (.dup, 1) := by decide +kernel
theorem dX10_undo_12 : decode cX10_undo 12 = .ok (.getfield 207, 3) := by decide +kernel
theorem dX10_undo_15 : decode cX10_undo 15 = .ok (.iconst 1, 1) := by decide +kernel
theorem dX10_undo_16 : decode cX10_undo 16 = .ok (.isub, 1) := by decide +kernel
theorem dX10_undo_17 : decode cX10_undo 17 = .ok (.putfield 207, 3) := by decide +kernel
theorem dX10_undo_20 : decode cX10_undo 20 = .ok (.aload_n 0, 1) := by decide +kernel
theorem dX10_undo_21 : decode cX10_undo 21 = .ok (.getfield 60, 3) := by decide +kernel
theorem dX10_undo_24 : decode cX10_undo 24 = .ok (.aload_n 0, 1) := by decide +kernel
theorem dX10_undo_25 : decode cX10_undo 25 = .ok (.getfield 207, 3) := by decide +kernel
theorem dX10_undo_28 : decode cX10_undo 28 = .ok (.iaload, 1) := by decide +kernel
theorem dX10_undo_29 : decode cX10_undo 29 = .ok (.istore_n 1, 1) := by decide +kernel
theorem dX10_undo_30 : decode cX10_undo 30 = .ok (.aload_n 0, 1) := by decide +kernel
theorem dX10_undo_31 : decode cX10_undo 31 = .ok (.aload_n 0, 1) := by decide +kernel
theorem dX10_undo_32 : decode cX10_undo 32 = .ok (.getfield 75, 3) := by decide +kernel
theorem dX10_undo_35 : decode cX10_undo 35 = .ok (.aload_n 0, 1) := by decide +kernel
theorem dX10_undo_36 : decode cX10_undo 36 = .ok (.getfield 207, 3) := by decide +kernel
theorem dX10_undo_39 : decode cX10_undo 39 = .ok (.iaload, 1) := by decide +kernel
theorem dX10_undo_40 : decode cX10_undo 40 = .ok (.putfield 135, 3) := by decide +kernel
theorem dX10_undo_43 : decode cX10_undo 43 = .ok (.aload_n 0, 1) := by decide +kernel
theorem dX10_undo_44 : decode cX10_undo 44 = .ok (.aload_n 0, 1) := by decide +kernel
theorem dX10_undo_45 : decode cX10_undo 45 = .ok (.getfield 78, 3) := by decide +kernel
theorem dX10_undo_48 : decode cX10_undo 48 = .ok (.aload_n 0, 1) := by decide +kernel
theorem dX10_undo_49 : decode cX10_undo 49 = .ok (.getfield 207, 3) := by decide +kernel
theorem dX10_undo_52 : decode cX10_undo 52 = .ok (.iaload, 1) := by decide +kernel
theorem dX10_undo_53 : decode cX10_undo 53 = .ok (.putfield 138, 3) := by decide +kernel
theorem dX10_undo_56 : decode cX10_undo 56 = .ok (.aload_n 0, 1) := by decide +kernel
theorem dX10_undo_57 : decode cX10_undo 57 = .ok (.aload_n 0, 1) := by decide +kernel
theorem dX10_undo_58 : decode cX10_undo 58 = .ok (.getfield 81, 3) := by decide +kernel
theorem dX10_undo_61 : decode cX10_undo 61 = .ok (.aload_n 0, 1) := by decide +kernel
theorem dX10_undo_62 : decode cX10_undo 62 = .ok (.getfield 207, 3) := by decide +kernel
theorem dX10_undo_65 : decode cX10_undo 65 = .ok (.iaload, 1) := by decide +kernel
theorem dX10_undo_66 : decode cX10_undo 66 = .ok (.putfield 141, 3) := by decide +kernel
theorem dX10_undo_69 : decode cX10_undo 69 = .ok (.aload_n 0, 1) := by decide +kernel
theorem dX10_undo_70 : decode cX10_undo 70 = .ok (.aload_n 0, 1) := by decide +kernel
theorem dX10_undo_71 : decode cX10_undo 71 = .ok (.getfield 84, 3) := by decide +kernel
theorem dX10_undo_74 : decode cX10_undo 74 = .ok (.aload_n 0, 1) := by decide +kernel
theorem dX10_undo_75 : decode cX10_undo 75 = .ok (.getfield 207, 3) := by decide +kernel
theorem dX10_undo_78 : decode cX10_undo 78 = .ok (.iaload, 1) := by decide +kernel
theorem dX10_undo_79 : decode cX10_undo 79 = .ok (.putfield 144, 3) := by decide +kernel
theorem dX10_undo_82 : decode cX10_undo 82 = .ok (.aload_n 0, 1) := by decide +kernel
theorem dX10_undo_83 : decode cX10_undo 83 = .ok (.aload_n 0, 1) := by decide +kernel
theorem dX10_undo_84 : decode cX10_undo 84 = .ok (.getfield 87, 3) := by decide +kernel
theorem dX10_undo_87 : decode cX10_undo 87 = .ok (.aload_n 0, 1) := by decide +kernel
theorem dX10_undo_88 : decode cX10_undo 88 = .ok (.getfield 207, 3) := by decide +kernel
theorem dX10_undo_91 : decode cX10_undo 91 = .ok (.iaload, 1) := by decide +kernel
theorem dX10_undo_92 : decode cX10_undo 92 = .ok (.putfield 147, 3) := by decide +kernel
theorem dX10_undo_95 : decode cX10_undo 95 = .ok (.aload_n 0, 1) := by decide +kernel
theorem dX10_undo_96 : decode cX10_undo 96 = .ok (.iload_n 1, 1) := by decide +kernel
theorem dX10_undo_97 : decode cX10_undo 97 = .ok (.invokevirtual 214, 3) := by decide +kernel
theorem dX10_undo_100 : decode cX10_undo 100 = .ok (.aload_n 0, 1) := by decide +kernel
theorem dX10_undo_101 : decode cX10_undo 101 = .ok (.getfield 35, 3) := by decide +kernel
theorem dX10_undo_104 : decode cX10_undo 104 = .ok (.iload_n 1, 1) := by decide +kernel
theorem dX10_undo_105 : decode cX10_undo 105 = .ok (.sipush 480, 3) := by decide +kernel
theorem dX10_undo_108 : decode cX10_undo 108 = .ok (.idiv, 1) := by decide +kernel
theorem dX10_undo_109 : decode cX10_undo 109 = .ok (.iconst 0, 1) := by decide +kernel
theorem dX10_undo_110 : decode cX10_undo 110 = .ok (.iastore, 1) := by decide +kernel
theorem dX10_undo_111 : decode cX10_undo 111 = .ok (.aload_n 0, 1) := by decide +kernel
theorem dX10_undo_112 : decode cX10_undo 112 = .ok (.getfield 207, 3) := by decide +kernel
theorem dX10_undo_115 : decode cX10_undo 115 = .ok (.ireturn, 1) := by decide +kernel
theorem dX10_memory_0 : decode cX10_memory 0 = .ok (.iload_n 1, 1) := by decide +kernel
theorem dX10_memory_1 : decode cX10_memory 1 = .ok (.invokestatic 190, 3) := by decide +kernel
theorem dX10_memory_4 : decode cX10_memory 4 = .ok (.ifCond .eq 12, 3) := by decide +kernel
theorem dX10_memory_7 : decode cX10_memory 7 = .ok (.aload_n 0, 1) := by decide +kernel
theorem dX10_memory_8 : decode cX10_memory 8 = .ok (.iload_n 2, 1) := by decide +kernel
theorem dX10_memory_9 : decode cX10_memory 9 = .ok (.iload_n 3, 1) := by decide +kernel
theorem dX10_memory_10 : decode cX10_memory 10 = .ok (.invokevirtual 220, 3) := by decide +kernel
theorem dX10_memory_13 : decode cX10_memory 13 = .ok (.ifCond .ne 6, 3) := by decide +kernel
theorem dX10_memory_16 : decode cX10_memory 16 = .ok (.bipush (-2), 2) := by decide +kernel
theorem dX10_memory_18 : decode cX10_memory 18 = .ok (.ireturn, 1) := by decide +kernel
theorem dX10_memory_19 : decode cX10_memory 19 = .ok (.iload_n 1, 1) := by decide +kernel
theorem dX10_memory_20 : decode cX10_memory 20 = .ok (.sipush 480, 3) := by decide +kernel
theorem dX10_memory_23 : decode cX10_memory 23 = .ok (.imul, 1) := by decide +kernel
theorem dX10_memory_24 : decode cX10_memory 24 = .ok (.iconst 4, 1) := by decide +kernel
theorem dX10_memory_25 : decode cX10_memory 25 = .ok (.iload_n 2, 1) := by decide +kernel
theorem dX10_memory_26 : decode cX10_memory 26 = .ok (.imul, 1) := by decide +kernel
theorem dX10_memory_27 : decode cX10_memory 27 = .ok (.iadd, 1) := by decide +kernel
theorem dX10_memory_28 : decode cX10_memory 28 = .ok (.iload_n 3, 1) := by decide +kernel
theorem dX10_memory_29 : decode cX10_memory 29 = .ok (.iadd, 1) := by decide +kernel
theorem dX10_memory_30 : decode cX10_memory 30 = .ok (.istore 5, 2) := by decide +kernel
theorem dX10_memory_32 : decode cX10_memory 32 = .ok (.aload_n 0, 1) := by decide +kernel
theorem dX10_memory_33 : decode cX10_memory 33 = .ok (.iload 5, 2) := by decide +kernel
theorem dX10_memory_35 : decode cX10_memory 35 = .ok (.invokevirtual 180, 3) := by decide +kernel
theorem dX10_memory_38 : decode cX10_memory 38 = .ok (.iload 4, 2) := by decide +kernel
theorem dX10_memory_40 : decode cX10_memory 40 = .ok (.tableswitch 167 0 9 #[56, 61, 66, 71, 76, 81, 103, 122, 138, 151], 56) := by decide +kernel
theorem dX10_memory_96 : decode cX10_memory 96 = .ok (.aload_n 0, 1) := by decide +kernel
theorem dX10_memory_97 : decode cX10_memory 97 = .ok (.getfield 135, 3) := by decide +kernel
theorem dX10_memory_100 : decode cX10_memory 100 = .ok (.ireturn, 1) := by decide +kernel
theorem dX10_memory_101 : decode cX10_memory 101 = .ok (.aload_n 0, 1) := by decide +kernel
theorem dX10_memory_102 : decode cX10_memory 102 = .ok (.getfield 138, 3) := by decide +kernel
theorem dX10_memory_105 : decode cX10_memory 105 = .ok (.ireturn, 1) := by decide +kernel
theorem dX10_memory_106 : decode cX10_memory 106 = .ok (.aload_n 0, 1) := by decide +kernel
theorem dX10_memory_107 : decode cX10_memory 107 = .ok (.getfield 141, 3) := by decide +kernel
theorem dX10_memory_110 : decode cX10_memory 110 = .ok (.ireturn, 1) := by decide +kernel
theorem dX10_memory_111 : decode cX10_memory 111 = .ok (.aload_n 0, 1) := by decide +kernel
theorem dX10_memory_112 : decode cX10_memory 112 = .ok (.getfield 144, 3) := by decide +kernel
theorem dX10_memory_115 : decode cX10_memory 115 = .ok (.ireturn, 1) := by decide +kernel
theorem dX10_memory_116 : decode cX10_memory 116 = .ok (.aload_n 0, 1) := by decide +kernel
theorem dX10_memory_117 : decode cX10_memory 117 = .ok (.getfield 147, 3) := by decide +kernel
theorem dX10_memory_120 : decode cX10_memory 120 = .ok (.ireturn, 1) := by decide +kernel
theorem dX10_memory_121 : decode cX10_memory 121 = .ok (.aload_n 0, 1) := by decide +kernel
theorem dX10_memory_122 : decode cX10_memory 122 = .ok (.getfield 135, 3) := by decide +kernel
theorem dX10_memory_125 : decode cX10_memory 125 = .ok (.ifCond .ne 7, 3) := by decide +kernel
theorem dX10_memory_128 : decode cX10_memory 128 = .ok (.iconst 0, 1) := by decide +kernel
theorem dX10_memory_129 : decode cX10_memory 129 = .ok (.goto 13, 3) := by decide +kernel
theorem dX10_memory_132 : decode cX10_memory 132 = .ok (.aload_n 0, 1) := by decide +kernel
theorem dX10_memory_133 : decode cX10_memory 133 = .ok (.aload_n 0, 1) := by decide +kernel
theorem dX10_memory_134 : decode cX10_memory 134 = .ok (.getfield 29, 3) := by decide +kernel
theorem dX10_memory_137 : decode cX10_memory 137 = .ok (.iload_n 1, 1) := by decide +kernel
theorem dX10_memory_138 : decode cX10_memory 138 = .ok (.iaload, 1) := by decide +kernel
theorem dX10_memory_139 : decode cX10_memory 139 = .ok (.invokevirtual 162, 3) := by decide +kernel
theorem dX10_memory_142 : decode cX10_memory 142 = .ok (.ireturn, 1) := by decide +kernel
theorem dX10_memory_143 : decode cX10_memory 143 = .ok (.aload_n 0, 1) := by decide +kernel
theorem dX10_memory_144 : decode cX10_memory 144 = .ok (.aload_n 0, 1) := by decide +kernel
theorem dX10_memory_145 : decode cX10_memory 145 = .ok (.getfield 29, 3) := by decide +kernel
theorem dX10_memory_148 : decode cX10_memory 148 = .ok (.iload_n 1, 1) := by decide +kernel
theorem dX10_memory_149 : decode cX10_memory 149 = .ok (.iaload, 1) := by decide +kernel
theorem dX10_memory_150 : decode cX10_memory 150 = .ok (.invokevirtual 184, 3) := by decide +kernel
theorem dX10_memory_153 : decode cX10_memory 153 = .ok (.ifCond .eq 7, 3) := by decide +kernel
theorem dX10_memory_156 : decode cX10_memory 156 = .ok (.iconst 1, 1) := by decide +kernel
theorem dX10_memory_157 : decode cX10_memory 157 = .ok (.goto 4, 3) := by decide +kernel
theorem dX10_memory_160 : decode cX10_memory 160 = .ok (.iconst 0, 1) := by decide +kernel
theorem dX10_memory_161 : decode cX10_memory 161 = .ok (.ireturn, 1) := by decide +kernel
theorem dX10_memory_162 : decode cX10_memory 162 = .ok (.aload_n 0, 1) := by decide +kernel
theorem dX10_memory_163 : decode cX10_memory 163 = .ok (.iload_n 1, 1) := by decide +kernel
theorem dX10_memory_164 : decode cX10_memory 164 = .ok (.iload_n 2, 1) := by decide +kernel
theorem dX10_memory_165 : decode cX10_memory 165 = .ok (.iload_n 3, 1) := by decide +kernel
theorem dX10_memory_166 : decode cX10_memory 166 = .ok (.invokevirtual 187, 3) := by decide +kernel
theorem dX10_memory_169 : decode cX10_memory 169 = .ok (.ifCond .eq 7, 3) := by decide +kernel
theorem dX10_memory_172 : decode cX10_memory 172 = .ok (.iconst 1, 1) := by decide +kernel
theorem dX10_memory_173 : decode cX10_memory 173 = .ok (.goto 4, 3) := by decide +kernel
theorem dX10_memory_176 : decode cX10_memory 176 = .ok (.iconst 0, 1) := by decide +kernel
theorem dX10_memory_177 : decode cX10_memory 177 = .ok (.ireturn, 1) := by decide +kernel
theorem dX10_memory_178 : decode cX10_memory 178 = .ok (.aload_n 0, 1) := by decide +kernel
theorem dX10_memory_179 : decode cX10_memory 179 = .ok (.invokevirtual 176, 3) := by decide +kernel
theorem dX10_memory_182 : decode cX10_memory 182 = .ok (.ifCond .eq 7, 3) := by decide +kernel
theorem dX10_memory_185 : decode cX10_memory 185 = .ok (.iconst 1, 1) := by decide +kernel
theorem dX10_memory_186 : decode cX10_memory 186 = .ok (.goto 4, 3) := by decide +kernel
theorem dX10_memory_189 : decode cX10_memory 189 = .ok (.iconst 0, 1) := by decide +kernel
theorem dX10_memory_190 : decode cX10_memory 190 = .ok (.ireturn, 1) := by decide +kernel
theorem dX10_memory_191 : decode cX10_memory 191 = .ok (.aload_n 0, 1) := by decide +kernel
theorem dX10_memory_192 : decode cX10_memory 192 = .ok (.getfield 41, 3) := by decide +kernel
theorem dX10_memory_195 : decode cX10_memory 195 = .ok (.iload 5, 2) := by decide +kernel
theorem dX10_memory_197 : decode cX10_memory 197 = .ok (.baload, 1) := by decide +kernel
theorem dX10_memory_198 : decode cX10_memory 198 = .ok (.ifCond .eq 7, 3) := by decide +kernel
theorem dX10_memory_201 : decode cX10_memory 201 = .ok (.iconst 1, 1) := by decide +kernel
theorem dX10_memory_202 : decode cX10_memory 202 = .ok (.goto 4, 3) := by decide +kernel
theorem dX10_memory_205 : decode cX10_memory 205 = .ok (.iconst 0, 1) := by decide +kernel
theorem dX10_memory_206 : decode cX10_memory 206 = .ok (.ireturn, 1) := by decide +kernel
theorem dX10_memory_207 : decode cX10_memory 207 = .ok (.bipush (-2), 2) := by decide +kernel
theorem dX10_memory_209 : decode cX10_memory 209 = .ok (.ireturn, 1) := by decide +kernel
theorem dX10_firstDue_0 : decode cX10_firstDue 0 = .ok (.iload_n 1, 1) := by decide +kernel
theorem dX10_firstDue_1 : decode cX10_firstDue 1 = .ok (.istore_n 3, 1) := by decide +kernel
theorem dX10_firstDue_2 : decode cX10_firstDue 2 = .ok (.iload_n 3, 1) := by decide +kernel
theorem dX10_firstDue_3 : decode cX10_firstDue 3 = .ok (.iload_n 2, 1) := by decide +kernel
theorem dX10_firstDue_4 : decode cX10_firstDue 4 = .ok (.if_icmp .gt 19, 3) := by decide +kernel
theorem dX10_firstDue_7 : decode cX10_firstDue 7 = .ok (.aload_n 0, 1) := by decide +kernel
theorem dX10_firstDue_8 : decode cX10_firstDue 8 = .ok (.iload_n 3, 1) := by decide +kernel
theorem dX10_firstDue_9 : decode cX10_firstDue 9 = .ok (.invokevirtual 184, 3) := by decide +kernel
theorem dX10_firstDue_12 : decode cX10_firstDue 12 = .ok (.ifCond .eq 5, 3) := by decide +kernel
theorem dX10_firstDue_15 : decode cX10_firstDue 15 = .ok (.iload_n 3, 1) := by decide +kernel
theorem dX10_firstDue_16 : decode cX10_firstDue 16 = .ok (.ireturn, 1) := by decide +kernel
theorem dX10_firstDue_17 : decode cX10_firstDue 17 = .ok (.iinc 3 1, 3) := by decide +kernel
theorem dX10_firstDue_20 : decode cX10_firstDue 20 = .ok (.goto (-18), 3) := by decide +kernel
theorem dX10_firstDue_23 : decode cX10_firstDue 23 = .ok (.iconst (-1), 1) := by decide +kernel
theorem dX10_firstDue_24 : decode cX10_firstDue 24 = .ok (.ireturn, 1) := by decide +kernel
theorem dX10_when_0 : decode cX10_when 0 = .ok (.iload_n 1, 1) := by decide +kernel
theorem dX10_when_1 : decode cX10_when 1 = .ok (.invokestatic 190, 3) := by decide +kernel
theorem dX10_when_4 : decode cX10_when 4 = .ok (.ifCond .eq 12, 3) := by decide +kernel
theorem dX10_when_7 : decode cX10_when 7 = .ok (.aload_n 0, 1) := by decide +kernel
theorem dX10_when_8 : decode cX10_when 8 = .ok (.iload_n 2, 1) := by decide +kernel
theorem dX10_when_9 : decode cX10_when 9 = .ok (.iload_n 3, 1) := by decide +kernel
theorem dX10_when_10 : decode cX10_when 10 = .ok (.invokevirtual 220, 3) := by decide +kernel
theorem dX10_when_13 : decode cX10_when 13 = .ok (.ifCond .ne 5, 3) := by decide +kernel
theorem dX10_when_16 : decode cX10_when 16 = .ok (.iconst (-1), 1) := by decide +kernel
theorem dX10_when_17 : decode cX10_when 17 = .ok (.ireturn, 1) := by decide +kernel
theorem dX10_when_18 : decode cX10_when 18 = .ok (.aload_n 0, 1) := by decide +kernel
theorem dX10_when_19 : decode cX10_when 19 = .ok (.iload_n 1, 1) := by decide +kernel
theorem dX10_when_20 : decode cX10_when 20 = .ok (.sipush 480, 3) := by decide +kernel
theorem dX10_when_23 : decode cX10_when 23 = .ok (.imul, 1) := by decide +kernel
theorem dX10_when_24 : decode cX10_when 24 = .ok (.iconst 4, 1) := by decide +kernel
theorem dX10_when_25 : decode cX10_when 25 = .ok (.iload_n 2, 1) := by decide +kernel
theorem dX10_when_26 : decode cX10_when 26 = .ok (.imul, 1) := by decide +kernel
theorem dX10_when_27 : decode cX10_when 27 = .ok (.iadd, 1) := by decide +kernel
theorem dX10_when_28 : decode cX10_when 28 = .ok (.iload_n 3, 1) := by decide +kernel
theorem dX10_when_29 : decode cX10_when 29 = .ok (.iadd, 1) := by decide +kernel
theorem dX10_when_30 : decode cX10_when 30 = .ok (.invokevirtual 180, 3) := by decide +kernel
theorem dX10_when_33 : decode cX10_when 33 = .ok (.aload_n 0, 1) := by decide +kernel
theorem dX10_when_34 : decode cX10_when 34 = .ok (.getfield 135, 3) := by decide +kernel
theorem dX10_when_37 : decode cX10_when 37 = .ok (.ifCond .eq 10, 3) := by decide +kernel
theorem dX10_when_40 : decode cX10_when 40 = .ok (.aload_n 0, 1) := by decide +kernel
theorem dX10_when_41 : decode cX10_when 41 = .ok (.invokevirtual 176, 3) := by decide +kernel
theorem dX10_when_44 : decode cX10_when 44 = .ok (.ifCond .eq 7, 3) := by decide +kernel
theorem dX10_when_47 : decode cX10_when 47 = .ok (.iconst (-1), 1) := by decide +kernel
theorem dX10_when_48 : decode cX10_when 48 = .ok (.goto 23, 3) := by decide +kernel
theorem dX10_when_51 : decode cX10_when 51 = .ok (.aload_n 0, 1) := by decide +kernel
theorem dX10_when_52 : decode cX10_when 52 = .ok (.aload_n 0, 1) := by decide +kernel
theorem dX10_when_53 : decode cX10_when 53 = .ok (.getfield 29, 3) := by decide +kernel
theorem dX10_when_56 : decode cX10_when 56 = .ok (.iload_n 1, 1) := by decide +kernel
theorem dX10_when_57 : decode cX10_when 57 = .ok (.iaload, 1) := by decide +kernel
theorem dX10_when_58 : decode cX10_when 58 = .ok (.aload_n 0, 1) := by decide +kernel
theorem dX10_when_59 : decode cX10_when 59 = .ok (.getfield 29, 3) := by decide +kernel
theorem dX10_when_62 : decode cX10_when 62 = .ok (.iload_n 1, 1) := by decide +kernel
theorem dX10_when_63 : decode cX10_when 63 = .ok (.iaload, 1) := by decide +kernel
theorem dX10_when_64 : decode cX10_when 64 = .ok (.sipush 10000, 3) := by decide +kernel
theorem dX10_when_67 : decode cX10_when 67 = .ok (.iadd, 1) := by decide +kernel
theorem dX10_when_68 : decode cX10_when 68 = .ok (.invokevirtual 223, 3) := by decide +kernel
theorem dX10_when_71 : decode cX10_when 71 = .ok (.ireturn, 1) := by decide +kernel
theorem dX10_sidesThat_0 : decode cX10_sidesThat 0 = .ok (.iconst 0, 1) := by decide +kernel
theorem dX10_sidesThat_1 : decode cX10_sidesThat 1 = .ok (.istore_n 3, 1) := by decide +kernel
theorem dX10_sidesThat_2 : decode cX10_sidesThat 2 = .ok (.iconst 0, 1) := by decide +kernel
theorem dX10_sidesThat_3 : decode cX10_sidesThat 3 = .ok (.istore 4, 2) := by decide +kernel
theorem dX10_sidesThat_5 : decode cX10_sidesThat 5 = .ok (.iload 4, 2) := by decide +kernel
theorem dX10_sidesThat_7 : decode cX10_sidesThat 7 = .ok (.aload_n 0, 1) := by decide +kernel
theorem dX10_sidesThat_8 : decode cX10_sidesThat 8 = .ok (.getfield 116, 3) := by decide +kernel
theorem dX10_sidesThat_11 : decode cX10_sidesThat 11 = .ok (.if_icmp .ge 98, 3) := by decide +kernel
theorem dX10_sidesThat_14 : decode cX10_sidesThat 14 = .ok (.iconst 0, 1) := by decide +kernel
theorem dX10_sidesThat_15 : decode cX10_sidesThat 15 = .ok (.istore 5, 2) := by decide +kernel
theorem dX10_sidesThat_17 : decode cX10_sidesThat 17 = .ok (.iload 5, 2) := by decide +kernel
theorem dX10_sidesThat_19 : decode cX10_sidesThat 19 = .ok (.aload_n 0, 1) := by decide +kernel
theorem dX10_sidesThat_20 : decode cX10_sidesThat 20 = .ok (.getfield 9, 3) := by decide +kernel
theorem dX10_sidesThat_23 : decode cX10_sidesThat 23 = .ok (.iload 4, 2) := by decide +kernel
theorem dX10_sidesThat_25 : decode cX10_sidesThat 25 = .ok (.iaload, 1) := by decide +kernel
theorem dX10_sidesThat_26 : decode cX10_sidesThat 26 = .ok (.if_icmp .ge 77, 3) := by decide +kernel
theorem dX10_sidesThat_29 : decode cX10_sidesThat 29 = .ok (.aload_n 0, 1) := by decide +kernel
theorem dX10_sidesThat_30 : decode cX10_sidesThat 30 = .ok (.iload_n 1, 1) := by decide +kernel
theorem dX10_sidesThat_31 : decode cX10_sidesThat 31 = .ok (.sipush 480, 3) := by decide +kernel
theorem dX10_sidesThat_34 : decode cX10_sidesThat 34 = .ok (.imul, 1) := by decide +kernel
theorem dX10_sidesThat_35 : decode cX10_sidesThat 35 = .ok (.iconst 4, 1) := by decide +kernel
theorem dX10_sidesThat_36 : decode cX10_sidesThat 36 = .ok (.iload 4, 2) := by decide +kernel
theorem dX10_sidesThat_38 : decode cX10_sidesThat 38 = .ok (.imul, 1) := by decide +kernel
theorem dX10_sidesThat_39 : decode cX10_sidesThat 39 = .ok (.iadd, 1) := by decide +kernel
theorem dX10_sidesThat_40 : decode cX10_sidesThat 40 = .ok (.iload 5, 2) := by decide +kernel
theorem dX10_sidesThat_42 : decode cX10_sidesThat 42 = .ok (.iadd, 1) := by decide +kernel
theorem dX10_sidesThat_43 : decode cX10_sidesThat 43 = .ok (.invokevirtual 180, 3) := by decide +kernel
theorem dX10_sidesThat_46 : decode cX10_sidesThat 46 = .ok (.iload_n 3, 1) := by decide +kernel
theorem dX10_sidesThat_47 : decode cX10_sidesThat 47 = .ok (.iload_n 2, 1) := by decide +kernel
theorem dX10_sidesThat_48 : decode cX10_sidesThat 48 = .ok (.iconst 1, 1) := by decide +kernel
theorem dX10_sidesThat_49 : decode cX10_sidesThat 49 = .ok (.if_icmp .ne 19, 3) := by decide +kernel
theorem dX10_sidesThat_52 : decode cX10_sidesThat 52 = .ok (.aload_n 0, 1) := by decide +kernel
theorem dX10_sidesThat_53 : decode cX10_sidesThat 53 = .ok (.aload_n 0, 1) := by decide +kernel
theorem dX10_sidesThat_54 : decode cX10_sidesThat 54 = .ok (.getfield 29, 3) := by decide +kernel
theorem dX10_sidesThat_57 : decode cX10_sidesThat 57 = .ok (.iload_n 1, 1) := by decide +kernel
theorem dX10_sidesThat_58 : decode cX10_sidesThat 58 = .ok (.iaload, 1) := by decide +kernel
theorem dX10_sidesThat_59 : decode cX10_sidesThat 59 = .ok (.invokevirtual 184, 3) := by decide +kernel
theorem dX10_sidesThat_62 : decode cX10_sidesThat 62 = .ok (.ifCond .eq 32, 3) := by decide +kernel
theorem dX10_sidesThat_65 : decode cX10_sidesThat 65 = .ok (.goto 25, 3) := by decide +kernel
theorem dX10_sidesThat_68 : decode cX10_sidesThat 68 = .ok (.iload_n 2, 1) := by decide +kernel
theorem dX10_sidesThat_69 : decode cX10_sidesThat 69 = .ok (.iconst 2, 1) := by decide +kernel
theorem dX10_sidesThat_70 : decode cX10_sidesThat 70 = .ok (.if_icmp .ne 13, 3) := by decide +kernel
theorem dX10_sidesThat_73 : decode cX10_sidesThat 73 = .ok (.aload_n 0, 1) := by decide +kernel
theorem dX10_sidesThat_74 : decode cX10_sidesThat 74 = .ok (.getfield 135, 3) := by decide +kernel
theorem dX10_sidesThat_77 : decode cX10_sidesThat 77 = .ok (.ifCond .ne 17, 3) := by decide +kernel
theorem dX10_sidesThat_80 : decode cX10_sidesThat 80 = .ok (.goto 10, 3) := by decide +kernel
theorem dX10_sidesThat_83 : decode cX10_sidesThat 83 = .ok (.aload_n 0, 1) := by decide +kernel
theorem dX10_sidesThat_84 : decode cX10_sidesThat 84 = .ok (.invokevirtual 176, 3) := by decide +kernel
theorem dX10_sidesThat_87 : decode cX10_sidesThat 87 = .ok (.ifCond .eq 7, 3) := by decide +kernel
theorem dX10_sidesThat_90 : decode cX10_sidesThat 90 = .ok (.iconst 1, 1) := by decide +kernel
theorem dX10_sidesThat_91 : decode cX10_sidesThat 91 = .ok (.goto 4, 3) := by decide +kernel
theorem dX10_sidesThat_94 : decode cX10_sidesThat 94 = .ok (.iconst 0, 1) := by decide +kernel
theorem dX10_sidesThat_95 : decode cX10_sidesThat 95 = .ok (.iadd, 1) := by decide +kernel
theorem dX10_sidesThat_96 : decode cX10_sidesThat 96 = .ok (.istore_n 3, 1) := by decide +kernel
theorem dX10_sidesThat_97 : decode cX10_sidesThat 97 = .ok (.iinc 5 1, 3) := by decide +kernel
theorem dX10_sidesThat_100 : decode cX10_sidesThat 100 = .ok (.goto (-83), 3) := by decide +kernel
theorem dX10_sidesThat_103 : decode cX10_sidesThat 103 = .ok (.iinc 4 1, 3) := by decide +kernel
theorem dX10_sidesThat_106 : decode cX10_sidesThat 106 = .ok (.goto (-101), 3) := by decide +kernel
theorem dX10_sidesThat_109 : decode cX10_sidesThat 109 = .ok (.iload_n 3, 1) := by decide +kernel
theorem dX10_sidesThat_110 : decode cX10_sidesThat 110 = .ok (.ireturn, 1) := by decide +kernel
theorem dX10_pupil_0 : decode cX10_pupil 0 = .ok (.iload_n 1, 1) := by decide +kernel
theorem dX10_pupil_1 : decode cX10_pupil 1 = .ok (.invokestatic 190, 3) := by decide +kernel
theorem dX10_pupil_4 : decode cX10_pupil 4 = .ok (.ifCond .eq 12, 3) := by decide +kernel
theorem dX10_pupil_7 : decode cX10_pupil 7 = .ok (.iload_n 2, 1) := by decide +kernel
theorem dX10_pupil_8 : decode cX10_pupil 8 = .ok (.iconst 0, 1) := by decide +kernel
theorem dX10_pupil_9 : decode cX10_pupil 9 = .ok (.iconst 5, 1) := by decide +kernel
theorem dX10_pupil_10 : decode cX10_pupil 10 = .ok (.invokestatic 123, 3) := by decide +kernel
theorem dX10_pupil_13 : decode cX10_pupil 13 = .ok (.ifCond .ne 5, 3) := by decide +kernel
theorem dX10_pupil_16 : decode cX10_pupil 16 = .ok (.iconst (-1), 1) := by decide +kernel
theorem dX10_pupil_17 : decode cX10_pupil 17 = .ok (.ireturn, 1) := by decide +kernel
theorem dX10_pupil_18 : decode cX10_pupil 18 = .ok (.iconst 0, 1) := by decide +kernel
theorem dX10_pupil_19 : decode cX10_pupil 19 = .ok (.istore_n 3, 1) := by decide +kernel
theorem dX10_pupil_20 : decode cX10_pupil 20 = .ok (.iload_n 2, 1) := by decide +kernel
theorem dX10_pupil_21 : decode cX10_pupil 21 = .ok (.iconst 3, 1) := by decide +kernel
theorem dX10_pupil_22 : decode cX10_pupil 22 = .ok (.if_icmp .le 24, 3) := by decide +kernel
theorem dX10_pupil_25 : decode cX10_pupil 25 = .ok (.iload_n 2, 1) := by decide +kernel
theorem dX10_pupil_26 : decode cX10_pupil 26 = .ok (.iconst 4, 1) := by decide +kernel
theorem dX10_pupil_27 : decode cX10_pupil 27 = .ok (.if_icmp .ne 12, 3) := by decide +kernel
theorem dX10_pupil_30 : decode cX10_pupil 30 = .ok (.aload_n 0, 1) := by decide +kernel
theorem dX10_pupil_31 : decode cX10_pupil 31 = .ok (.getfield 35, 3) := by decide +kernel
theorem dX10_pupil_34 : decode cX10_pupil 34 = .ok (.iload_n 1, 1) := by decide +kernel
theorem dX10_pupil_35 : decode cX10_pupil 35 = .ok (.iaload, 1) := by decide +kernel
theorem dX10_pupil_36 : decode cX10_pupil 36 = .ok (.goto 9, 3) := by decide +kernel
theorem dX10_pupil_39 : decode cX10_pupil 39 = .ok (.aload_n 0, 1) := by decide +kernel
theorem dX10_pupil_40 : decode cX10_pupil 40 = .ok (.getfield 29, 3) := by decide +kernel
theorem dX10_pupil_43 : decode cX10_pupil 43 = .ok (.iload_n 1, 1) := by decide +kernel
theorem dX10_pupil_44 : decode cX10_pupil 44 = .ok (.iaload, 1) := by decide +kernel
theorem dX10_pupil_45 : decode cX10_pupil 45 = .ok (.ireturn, 1) := by decide +kernel
theorem dX10_pupil_46 : decode cX10_pupil 46 = .ok (.iload_n 2, 1) := by decide +kernel
theorem dX10_pupil_47 : decode cX10_pupil 47 = .ok (.ifCond .le 10, 3) := by decide +kernel
theorem dX10_pupil_50 : decode cX10_pupil 50 = .ok (.aload_n 0, 1) := by decide +kernel
theorem dX10_pupil_51 : decode cX10_pupil 51 = .ok (.iload_n 1, 1) := by decide +kernel
theorem dX10_pupil_52 : decode cX10_pupil 52 = .ok (.iload_n 2, 1) := by decide +kernel
theorem dX10_pupil_53 : decode cX10_pupil 53 = .ok (.invokevirtual 226, 3) := by decide +kernel
theorem dX10_pupil_56 : decode cX10_pupil 56 = .ok (.ireturn, 1) := by decide +kernel
theorem dX10_pupil_57 : decode cX10_pupil 57 = .ok (.iconst 0, 1) := by decide +kernel
theorem dX10_pupil_58 : decode cX10_pupil 58 = .ok (.istore 4, 2) := by decide +kernel
theorem dX10_pupil_60 : decode cX10_pupil 60 = .ok (.iload 4, 2) := by decide +kernel
theorem dX10_pupil_62 : decode cX10_pupil 62 = .ok (.aload_n 0, 1) := by decide +kernel
theorem dX10_pupil_63 : decode cX10_pupil 63 = .ok (.getfield 116, 3) := by decide +kernel
theorem dX10_pupil_66 : decode cX10_pupil 66 = .ok (.if_icmp .ge 27, 3) := by decide +kernel
theorem dX10_pupil_69 : decode cX10_pupil 69 = .ok (.iload_n 3, 1) := by decide +kernel
theorem dX10_pupil_70 : decode cX10_pupil 70 = .ok (.aload_n 0, 1) := by decide +kernel
theorem dX10_pupil_71 : decode cX10_pupil 71 = .ok (.iload_n 1, 1) := by decide +kernel
theorem dX10_pupil_72 : decode cX10_pupil 72 = .ok (.iload 4, 2) := by decide +kernel
theorem dX10_pupil_74 : decode cX10_pupil 74 = .ok (.invokevirtual 196, 3) := by decide +kernel
theorem dX10_pupil_77 : decode cX10_pupil 77 = .ok (.ifCond .eq 7, 3) := by decide +kernel
theorem dX10_pupil_80 : decode cX10_pupil 80 = .ok (.iconst 1, 1) := by decide +kernel
theorem dX10_pupil_81 : decode cX10_pupil 81 = .ok (.goto 4, 3) := by decide +kernel
theorem dX10_pupil_84 : decode cX10_pupil 84 = .ok (.iconst 0, 1) := by decide +kernel
theorem dX10_pupil_85 : decode cX10_pupil 85 = .ok (.iadd, 1) := by decide +kernel
theorem dX10_pupil_86 : decode cX10_pupil 86 = .ok (.istore_n 3, 1) := by decide +kernel
theorem dX10_pupil_87 : decode cX10_pupil 87 = .ok (.iinc 4 1, 3) := by decide +kernel
theorem dX10_pupil_90 : decode cX10_pupil 90 = .ok (.goto (-30), 3) := by decide +kernel
theorem dX10_pupil_93 : decode cX10_pupil 93 = .ok (.iload_n 3, 1) := by decide +kernel
theorem dX10_pupil_94 : decode cX10_pupil 94 = .ok (.ireturn, 1) := by decide +kernel
theorem dX10_known_0 : decode cX10_known 0 = .ok (.iload_n 1, 1) := by decide +kernel
theorem dX10_known_1 : decode cX10_known 1 = .ok (.invokestatic 190, 3) := by decide +kernel
theorem dX10_known_4 : decode cX10_known 4 = .ok (.ifCond .eq 28, 3) := by decide +kernel
theorem dX10_known_7 : decode cX10_known 7 = .ok (.aload_n 0, 1) := by decide +kernel
theorem dX10_known_8 : decode cX10_known 8 = .ok (.iload_n 2, 1) := by decide +kernel
theorem dX10_known_9 : decode cX10_known 9 = .ok (.invokevirtual 119, 3) := by decide +kernel
theorem dX10_known_12 : decode cX10_known 12 = .ok (.ifCond .eq 20, 3) := by decide +kernel
theorem dX10_known_15 : decode cX10_known 15 = .ok (.aload_n 0, 1) := by decide +kernel
theorem dX10_known_16 : decode cX10_known 16 = .ok (.iload_n 1, 1) := by decide +kernel
theorem dX10_known_17 : decode cX10_known 17 = .ok (.iload_n 2, 1) := by decide +kernel
theorem dX10_known_18 : decode cX10_known 18 = .ok (.invokevirtual 196, 3) := by decide +kernel
theorem dX10_known_21 : decode cX10_known 21 = .ok (.ifCond .eq 7, 3) := by decide +kernel
theorem dX10_known_24 : decode cX10_known 24 = .ok (.iconst 1, 1) := by decide +kernel
theorem dX10_known_25 : decode cX10_known 25 = .ok (.goto 8, 3) := by decide +kernel
theorem dX10_known_28 : decode cX10_known 28 = .ok (.iconst 0, 1) := by decide +kernel
theorem dX10_known_29 : decode cX10_known 29 = .ok (.goto 4, 3) := by decide +kernel
theorem dX10_known_32 : decode cX10_known 32 = .ok (.iconst (-1), 1) := by decide +kernel
theorem dX10_known_33 : decode cX10_known 33 = .ok (.ireturn, 1) := by decide +kernel
theorem dX10_mean_0 : decode cX10_mean 0 = .ok (.aload_n 0, 1) := by decide +kernel
theorem dX10_mean_1 : decode cX10_mean 1 = .ok (.iload_n 1, 1) := by decide +kernel
theorem dX10_mean_2 : decode cX10_mean 2 = .ok (.iload_n 2, 1) := by decide +kernel
theorem dX10_mean_3 : decode cX10_mean 3 = .ok (.invokevirtual 220, 3) := by decide +kernel
theorem dX10_mean_6 : decode cX10_mean 6 = .ok (.ifCond .ne 5, 3) := by decide +kernel
theorem dX10_mean_9 : decode cX10_mean 9 = .ok (.iconst (-1), 1) := by decide +kernel
theorem dX10_mean_10 : decode cX10_mean 10 = .ok (.ireturn, 1) := by decide +kernel
theorem dX10_mean_11 : decode cX10_mean 11 = .ok (.iconst 0, 1) := by decide +kernel
theorem dX10_mean_12 : decode cX10_mean 12 = .ok (.istore_n 3, 1) := by decide +kernel
theorem dX10_mean_13 : decode cX10_mean 13 = .ok (.iconst 0, 1) := by decide +kernel
theorem dX10_mean_14 : decode cX10_mean 14 = .ok (.istore 4, 2) := by decide +kernel
theorem dX10_mean_16 : decode cX10_mean 16 = .ok (.iload 4, 2) := by decide +kernel
theorem dX10_mean_18 : decode cX10_mean 18 = .ok (.iconst 4, 1) := by decide +kernel
theorem dX10_mean_19 : decode cX10_mean 19 = .ok (.if_icmp .ge 21, 3) := by decide +kernel
theorem dX10_mean_22 : decode cX10_mean 22 = .ok (.iload_n 3, 1) := by decide +kernel
theorem dX10_mean_23 : decode cX10_mean 23 = .ok (.aload_n 0, 1) := by decide +kernel
theorem dX10_mean_24 : decode cX10_mean 24 = .ok (.iload 4, 2) := by decide +kernel
theorem dX10_mean_26 : decode cX10_mean 26 = .ok (.iload_n 1, 1) := by decide +kernel
theorem dX10_mean_27 : decode cX10_mean 27 = .ok (.iload_n 2, 1) := by decide +kernel
theorem dX10_mean_28 : decode cX10_mean 28 = .ok (.iconst 5, 1) := by decide +kernel
theorem dX10_mean_29 : decode cX10_mean 29 = .ok (.invokevirtual 229, 3) := by decide +kernel
theorem dX10_mean_32 : decode cX10_mean 32 = .ok (.iadd, 1) := by decide +kernel
theorem dX10_mean_33 : decode cX10_mean 33 = .ok (.istore_n 3, 1) := by decide +kernel
theorem dX10_mean_34 : decode cX10_mean 34 = .ok (.iinc 4 1, 3) := by decide +kernel
theorem dX10_mean_37 : decode cX10_mean 37 = .ok (.goto (-21), 3) := by decide +kernel
theorem dX10_mean_40 : decode cX10_mean 40 = .ok (.iload_n 3, 1) := by decide +kernel
theorem dX10_mean_41 : decode cX10_mean 41 = .ok (.ireturn, 1) := by decide +kernel
theorem dX10_plan_0 : decode cX10_plan 0 = .ok (.iload_n 1, 1) := by decide +kernel
theorem dX10_plan_1 : decode cX10_plan 1 = .ok (.invokestatic 190, 3) := by decide +kernel
theorem dX10_plan_4 : decode cX10_plan 4 = .ok (.ifCond .eq 13, 3) := by decide +kernel
theorem dX10_plan_7 : decode cX10_plan 7 = .ok (.iload_n 2, 1) := by decide +kernel
theorem dX10_plan_8 : decode cX10_plan 8 = .ok (.iconst 0, 1) := by decide +kernel
theorem dX10_plan_9 : decode cX10_plan 9 = .ok (.bipush 59, 2) := by decide +kernel
theorem dX10_plan_11 : decode cX10_plan 11 = .ok (.invokestatic 123, 3) := by decide +kernel
theorem dX10_plan_14 : decode cX10_plan 14 = .ok (.ifCond .ne 5, 3) := by decide +kernel
theorem dX10_plan_17 : decode cX10_plan 17 = .ok (.iconst (-1), 1) := by decide +kernel
theorem dX10_plan_18 : decode cX10_plan 18 = .ok (.ireturn, 1) := by decide +kernel
theorem dX10_plan_19 : decode cX10_plan 19 = .ok (.aload_n 0, 1) := by decide +kernel
theorem dX10_plan_20 : decode cX10_plan 20 = .ok (.getfield 113, 3) := by decide +kernel
theorem dX10_plan_23 : decode cX10_plan 23 = .ok (.astore_n 3, 1) := by decide +kernel
theorem dX10_plan_24 : decode cX10_plan 24 = .ok (.iconst 0, 1) := by decide +kernel
theorem dX10_plan_25 : decode cX10_plan 25 = .ok (.istore 4, 2) := by decide +kernel
theorem dX10_plan_27 : decode cX10_plan 27 = .ok (.iload 4, 2) := by decide +kernel
theorem dX10_plan_29 : decode cX10_plan 29 = .ok (.sipush 480, 3) := by decide +kernel
theorem dX10_plan_32 : decode cX10_plan 32 = .ok (.if_icmp .ge 92, 3) := by decide +kernel
theorem dX10_plan_35 : decode cX10_plan 35 = .ok (.iload_n 1, 1) := by decide +kernel
theorem dX10_plan_36 : decode cX10_plan 36 = .ok (.sipush 480, 3) := by decide +kernel
theorem dX10_plan_39 : decode cX10_plan 39 = .ok (.imul, 1) := by decide +kernel
theorem dX10_plan_40 : decode cX10_plan 40 = .ok (.iload 4, 2) := by decide +kernel
theorem dX10_plan_42 : decode cX10_plan 42 = .ok (.iadd, 1) := by decide +kernel
theorem dX10_plan_43 : decode cX10_plan 43 = .ok (.istore 5, 2) := by decide +kernel
theorem dX10_plan_45 : decode cX10_plan 45 = .ok (.aload_n 3, 1) := by decide +kernel
theorem dX10_plan_46 : decode cX10_plan 46 = .ok (.iconst 5, 1) := by decide +kernel
theorem dX10_plan_47 : decode cX10_plan 47 = .ok (.iload 4, 2) := by decide +kernel
theorem dX10_plan_49 : decode cX10_plan 49 = .ok (.imul, 1) := by decide +kernel
theorem dX10_plan_50 : decode cX10_plan 50 = .ok (.aload_n 0, 1) := by decide +kernel
theorem dX10_plan_51 : decode cX10_plan 51 = .ok (.getfield 45, 3) := by decide +kernel
theorem dX10_plan_54 : decode cX10_plan 54 = .ok (.iload 5, 2) := by decide +kernel
theorem dX10_plan_56 : decode cX10_plan 56 = .ok (.iaload, 1) := by decide +kernel
theorem dX10_plan_57 : decode cX10_plan 57 = .ok (.iastore, 1) := by decide +kernel
theorem dX10_plan_58 : decode cX10_plan 58 = .ok (.aload_n 3, 1) := by decide +kernel
theorem dX10_plan_59 : decode cX10_plan 59 = .ok (.iconst 5, 1) := by decide +kernel
theorem dX10_plan_60 : decode cX10_plan 60 = .ok (.iload 4, 2) := by decide +kernel
theorem dX10_plan_62 : decode cX10_plan 62 = .ok (.imul, 1) := by decide +kernel
theorem dX10_plan_63 : decode cX10_plan 63 = .ok (.iconst 1, 1) := by decide +kernel
theorem dX10_plan_64 : decode cX10_plan 64 = .ok (.iadd, 1) := by decide +kernel
theorem dX10_plan_65 : decode cX10_plan 65 = .ok (.aload_n 0, 1) := by decide +kernel
theorem dX10_plan_66 : decode cX10_plan 66 = .ok (.getfield 48, 3) := by decide +kernel
theorem dX10_plan_69 : decode cX10_plan 69 = .ok (.iload 5, 2) := by decide +kernel
theorem dX10_plan_71 : decode cX10_plan 71 = .ok (.iaload, 1) := by decide +kernel
theorem dX10_plan_72 : decode cX10_plan 72 = .ok (.iastore, 1) := by decide +kernel
theorem dX10_plan_73 : decode cX10_plan 73 = .ok (.aload_n 3, 1) := by decide +kernel
theorem dX10_plan_74 : decode cX10_plan 74 = .ok (.iconst 5, 1) := by decide +kernel
theorem dX10_plan_75 : decode cX10_plan 75 = .ok (.iload 4, 2) := by decide +kernel
theorem dX10_plan_77 : decode cX10_plan 77 = .ok (.imul, 1) := by decide +kernel
theorem dX10_plan_78 : decode cX10_plan 78 = .ok (.iconst 2, 1) := by decide +kernel
theorem dX10_plan_79 : decode cX10_plan 79 = .ok (.iadd, 1) := by decide +kernel
theorem dX10_plan_80 : decode cX10_plan 80 = .ok (.aload_n 0, 1) := by decide +kernel
theorem dX10_plan_81 : decode cX10_plan 81 = .ok (.getfield 51, 3) := by decide +kernel
theorem dX10_plan_84 : decode cX10_plan 84 = .ok (.iload 5, 2) := by decide +kernel
theorem dX10_plan_86 : decode cX10_plan 86 = .ok (.iaload, 1) := by decide +kernel
theorem dX10_plan_87 : decode cX10_plan 87 = .ok (.iastore, 1) := by decide +kernel
theorem dX10_plan_88 : decode cX10_plan 88 = .ok (.aload_n 3, 1) := by decide +kernel
theorem dX10_plan_89 : decode cX10_plan 89 = .ok (.iconst 5, 1) := by decide +kernel
theorem dX10_plan_90 : decode cX10_plan 90 = .ok (.iload 4, 2) := by decide +kernel
theorem dX10_plan_92 : decode cX10_plan 92 = .ok (.imul, 1) := by decide +kernel
theorem dX10_plan_93 : decode cX10_plan 93 = .ok (.iconst 3, 1) := by decide +kernel
theorem dX10_plan_94 : decode cX10_plan 94 = .ok (.iadd, 1) := by decide +kernel
theorem dX10_plan_95 : decode cX10_plan 95 = .ok (.aload_n 0, 1) := by decide +kernel
theorem dX10_plan_96 : decode cX10_plan 96 = .ok (.getfield 54, 3) := by decide +kernel
theorem dX10_plan_99 : decode cX10_plan 99 = .ok (.iload 5, 2) := by decide +kernel
theorem dX10_plan_101 : decode cX10_plan 101 = .ok (.iaload, 1) := by decide +kernel
theorem dX10_plan_102 : decode cX10_plan 102 = .ok (.iastore, 1) := by decide +kernel
theorem dX10_plan_103 : decode cX10_plan 103 = .ok (.aload_n 3, 1) := by decide +kernel
theorem dX10_plan_104 : decode cX10_plan 104 = .ok (.iconst 5, 1) := by decide +kernel
theorem dX10_plan_105 : decode cX10_plan 105 = .ok (.iload 4, 2) := by decide +kernel
theorem dX10_plan_107 : decode cX10_plan 107 = .ok (.imul, 1) := by decide +kernel
theorem dX10_plan_108 : decode cX10_plan 108 = .ok (.iconst 4, 1) := by decide +kernel
theorem dX10_plan_109 : decode cX10_plan 109 = .ok (.iadd, 1) := by decide +kernel
theorem dX10_plan_110 : decode cX10_plan 110 = .ok (.aload_n 0, 1) := by decide +kernel
theorem dX10_plan_111 : decode cX10_plan 111 = .ok (.getfield 57, 3) := by decide +kernel
theorem dX10_plan_114 : decode cX10_plan 114 = .ok (.iload 5, 2) := by decide +kernel
theorem dX10_plan_116 : decode cX10_plan 116 = .ok (.iaload, 1) := by decide +kernel
theorem dX10_plan_117 : decode cX10_plan 117 = .ok (.iastore, 1) := by decide +kernel
theorem dX10_plan_118 : decode cX10_plan 118 = .ok (.iinc 4 1, 3) := by decide +kernel
theorem dX10_plan_121 : decode cX10_plan 121 = .ok (.goto (-94), 3) := by decide +kernel
theorem dX10_plan_124 : decode cX10_plan 124 = .ok (.iconst 0, 1) := by decide +kernel
theorem dX10_plan_125 : decode cX10_plan 125 = .ok (.istore 4, 2) := by decide +kernel
theorem dX10_plan_127 : decode cX10_plan 127 = .ok (.iconst 0, 1) := by decide +kernel
theorem dX10_plan_128 : decode cX10_plan 128 = .ok (.istore 5, 2) := by decide +kernel
theorem dX10_plan_130 : decode cX10_plan 130 = .ok (.iload 5, 2) := by decide +kernel
theorem dX10_plan_132 : decode cX10_plan 132 = .ok (.iload_n 2, 1) := by decide +kernel
theorem dX10_plan_133 : decode cX10_plan 133 = .ok (.if_icmp .gt 114, 3) := by decide +kernel
theorem dX10_plan_136 : decode cX10_plan 136 = .ok (.iconst 0, 1) := by decide +kernel
theorem dX10_plan_137 : decode cX10_plan 137 = .ok (.istore 4, 2) := by decide +kernel
theorem dX10_plan_139 : decode cX10_plan 139 = .ok (.aload_n 0, 1) := by decide +kernel
theorem dX10_plan_140 : decode cX10_plan 140 = .ok (.getfield 29, 3) := by decide +kernel
theorem dX10_plan_143 : decode cX10_plan 143 = .ok (.iload_n 1, 1) := by decide +kernel
theorem dX10_plan_144 : decode cX10_plan 144 = .ok (.iaload, 1) := by decide +kernel
theorem dX10_plan_145 : decode cX10_plan 145 = .ok (.iload 5, 2) := by decide +kernel
theorem dX10_plan_147 : decode cX10_plan 147 = .ok (.iadd, 1) := by decide +kernel
theorem dX10_plan_148 : decode cX10_plan 148 = .ok (.istore 6, 2) := by decide +kernel
theorem dX10_plan_150 : decode cX10_plan 150 = .ok (.iconst 0, 1) := by decide +kernel
theorem dX10_plan_151 : decode cX10_plan 151 = .ok (.istore 7, 2) := by decide +kernel
theorem dX10_plan_153 : decode cX10_plan 153 = .ok (.iload 7, 2) := by decide +kernel
theorem dX10_plan_155 : decode cX10_plan 155 = .ok (.aload_n 0, 1) := by decide +kernel
theorem dX10_plan_156 : decode cX10_plan 156 = .ok (.getfield 116, 3) := by decide +kernel
theorem dX10_plan_159 : decode cX10_plan 159 = .ok (.if_icmp .ge 82, 3) := by decide +kernel
theorem dX10_plan_162 : decode cX10_plan 162 = .ok (.aload_n 0, 1) := by decide +kernel
theorem dX10_plan_163 : decode cX10_plan 163 = .ok (.iload_n 1, 1) := by decide +kernel
theorem dX10_plan_164 : decode cX10_plan 164 = .ok (.iload 7, 2) := by decide +kernel
theorem dX10_plan_166 : decode cX10_plan 166 = .ok (.iload 6, 2) := by decide +kernel
theorem dX10_plan_168 : decode cX10_plan 168 = .ok (.iload 5, 2) := by decide +kernel
theorem dX10_plan_170 : decode cX10_plan 170 = .ok (.ifCond .ne 7, 3) := by decide +kernel
theorem dX10_plan_173 : decode cX10_plan 173 = .ok (.iconst 1, 1) := by decide +kernel
theorem dX10_plan_174 : decode cX10_plan 174 = .ok (.goto 4, 3) := by decide +kernel
theorem dX10_plan_177 : decode cX10_plan 177 = .ok (.iconst 0, 1) := by decide +kernel
theorem dX10_plan_178 : decode cX10_plan 178 = .ok (.invokevirtual 199, 3) := by decide +kernel
theorem dX10_plan_181 : decode cX10_plan 181 = .ok (.istore 8, 2) := by decide +kernel
theorem dX10_plan_183 : decode cX10_plan 183 = .ok (.iload 8, 2) := by decide +kernel
theorem dX10_plan_185 : decode cX10_plan 185 = .ok (.ifCond .lt 50, 3) := by decide +kernel
theorem dX10_plan_188 : decode cX10_plan 188 = .ok (.iload_n 1, 1) := by decide +kernel
theorem dX10_plan_189 : decode cX10_plan 189 = .ok (.sipush 480, 3) := by decide +kernel
theorem dX10_plan_192 : decode cX10_plan 192 = .ok (.imul, 1) := by decide +kernel
theorem dX10_plan_193 : decode cX10_plan 193 = .ok (.iconst 4, 1) := by decide +kernel
theorem dX10_plan_194 : decode cX10_plan 194 = .ok (.iload 7, 2) := by decide +kernel
theorem dX10_plan_196 : decode cX10_plan 196 = .ok (.imul, 1) := by decide +kernel
theorem dX10_plan_197 : decode cX10_plan 197 = .ok (.iadd, 1) := by decide +kernel
theorem dX10_plan_198 : decode cX10_plan 198 = .ok (.iload 8, 2) := by decide +kernel
theorem dX10_plan_200 : decode cX10_plan 200 = .ok (.iadd, 1) := by decide +kernel
theorem dX10_plan_201 : decode cX10_plan 201 = .ok (.istore 9, 2) := by decide +kernel
theorem dX10_plan_203 : decode cX10_plan 203 = .ok (.aload_n 0, 1) := by decide +kernel
theorem dX10_plan_204 : decode cX10_plan 204 = .ok (.iload 9, 2) := by decide +kernel
theorem dX10_plan_206 : decode cX10_plan 206 = .ok (.invokevirtual 180, 3) := by decide +kernel
theorem dX10_plan_209 : decode cX10_plan 209 = .ok (.aload_n 0, 1) := by decide +kernel
theorem dX10_plan_210 : decode cX10_plan 210 = .ok (.aload_n 0, 1) := by decide +kernel
theorem dX10_plan_211 : decode cX10_plan 211 = .ok (.getfield 131, 3) := by decide +kernel
theorem dX10_plan_214 : decode cX10_plan 214 = .ok (.aload_n 0, 1) := by decide +kernel
theorem dX10_plan_215 : decode cX10_plan 215 = .ok (.getfield 19, 3) := by decide +kernel
theorem dX10_plan_218 : decode cX10_plan 218 = .ok (.iconst 2, 1) := by decide +kernel
theorem dX10_plan_219 : decode cX10_plan 219 = .ok (.iaload, 1) := by decide +kernel
theorem dX10_plan_220 : decode cX10_plan 220 = .ok (.iconst 2, 1) := by decide +kernel
theorem dX10_plan_221 : decode cX10_plan 221 = .ok (.iload 6, 2) := by decide +kernel
theorem dX10_plan_223 : decode cX10_plan 223 = .ok (.invokevirtual 210, 3) := by decide +kernel
theorem dX10_plan_226 : decode cX10_plan 226 = .ok (.aload_n 0, 1) := by decide +kernel
theorem dX10_plan_227 : decode cX10_plan 227 = .ok (.iload 9, 2) := by decide +kernel
theorem dX10_plan_229 : decode cX10_plan 229 = .ok (.invokevirtual 214, 3) := by decide +kernel
theorem dX10_plan_232 : decode cX10_plan 232 = .ok (.iinc 4 1, 3) := by decide +kernel
theorem dX10_plan_235 : decode cX10_plan 235 = .ok (.iinc 7 1, 3) := by decide +kernel
theorem dX10_plan_238 : decode cX10_plan 238 = .ok (.goto (-85), 3) := by decide +kernel
theorem dX10_plan_241 : decode cX10_plan 241 = .ok (.iinc 5 1, 3) := by decide +kernel
theorem dX10_plan_244 : decode cX10_plan 244 = .ok (.goto (-114), 3) := by decide +kernel
theorem dX10_plan_247 : decode cX10_plan 247 = .ok (.iconst 0, 1) := by decide +kernel
theorem dX10_plan_248 : decode cX10_plan 248 = .ok (.istore 5, 2) := by decide +kernel
theorem dX10_plan_250 : decode cX10_plan 250 = .ok (.iload 5, 2) := by decide +kernel
theorem dX10_plan_252 : decode cX10_plan 252 = .ok (.sipush 480, 3) := by decide +kernel
theorem dX10_plan_255 : decode cX10_plan 255 = .ok (.if_icmp .ge 92, 3) := by decide +kernel
theorem dX10_plan_258 : decode cX10_plan 258 = .ok (.iload_n 1, 1) := by decide +kernel
theorem dX10_plan_259 : decode cX10_plan 259 = .ok (.sipush 480, 3) := by decide +kernel
theorem dX10_plan_262 : decode cX10_plan 262 = .ok (.imul, 1) := by decide +kernel
theorem dX10_plan_263 : decode cX10_plan 263 = .ok (.iload 5, 2) := by decide +kernel
theorem dX10_plan_265 : decode cX10_plan 265 = .ok (.iadd, 1) := by decide +kernel
theorem dX10_plan_266 : decode cX10_plan 266 = .ok (.istore 6, 2) := by decide +kernel
theorem dX10_plan_268 : decode cX10_plan 268 = .ok (.aload_n 0, 1) := by decide +kernel
theorem dX10_plan_269 : decode cX10_plan 269 = .ok (.getfield 45, 3) := by decide +kernel
theorem dX10_plan_272 : decode cX10_plan 272 = .ok (.iload 6, 2) := by decide +kernel
theorem dX10_plan_274 : decode cX10_plan 274 = .ok (.aload_n 3, 1) := by decide +kernel
theorem dX10_plan_275 : decode cX10_plan 275 = .ok (.iconst 5, 1) := by decide +kernel
theorem dX10_plan_276 : decode cX10_plan 276 = .ok (.iload 5, 2) := by decide +kernel
theorem dX10_plan_278 : decode cX10_plan 278 = .ok (.imul, 1) := by decide +kernel
theorem dX10_plan_279 : decode cX10_plan 279 = .ok (.iaload, 1) := by decide +kernel
theorem dX10_plan_280 : decode cX10_plan 280 = .ok (.iastore, 1) := by decide +kernel
theorem dX10_plan_281 : decode cX10_plan 281 = .ok (.aload_n 0, 1) := by decide +kernel
theorem dX10_plan_282 : decode cX10_plan 282 = .ok (.getfield 48, 3) := by decide +kernel
theorem dX10_plan_285 : decode cX10_plan 285 = .ok (.iload 6, 2) := by decide +kernel
theorem dX10_plan_287 : decode cX10_plan 287 = .ok (.aload_n 3, 1) := by decide +kernel
theorem dX10_plan_288 : decode cX10_plan 288 = .ok (.iconst 5, 1) := by decide +kernel
theorem dX10_plan_289 : decode cX10_plan 289 = .ok (.iload 5, 2) := by decide +kernel
theorem dX10_plan_291 : decode cX10_plan 291 = .ok (.imul, 1) := by decide +kernel
theorem dX10_plan_292 : decode cX10_plan 292 = .ok (.iconst 1, 1) := by decide +kernel
theorem dX10_plan_293 : decode cX10_plan 293 = .ok (.iadd, 1) := by decide +kernel
theorem dX10_plan_294 : decode cX10_plan 294 = .ok (.iaload, 1) := by decide +kernel
theorem dX10_plan_295 : decode cX10_plan 295 = .ok (.iastore, 1) := by decide +kernel
theorem dX10_plan_296 : decode cX10_plan 296 = .ok (.aload_n 0, 1) := by decide +kernel
theorem dX10_plan_297 : decode cX10_plan 297 = .ok (.getfield 51, 3) := by decide +kernel
theorem dX10_plan_300 : decode cX10_plan 300 = .ok (.iload 6, 2) := by decide +kernel
theorem dX10_plan_302 : decode cX10_plan 302 = .ok (.aload_n 3, 1) := by decide +kernel
theorem dX10_plan_303 : decode cX10_plan 303 = .ok (.iconst 5, 1) := by decide +kernel
theorem dX10_plan_304 : decode cX10_plan 304 = .ok (.iload 5, 2) := by decide +kernel
theorem dX10_plan_306 : decode cX10_plan 306 = .ok (.imul, 1) := by decide +kernel
theorem dX10_plan_307 : decode cX10_plan 307 = .ok (.iconst 2, 1) := by decide +kernel
theorem dX10_plan_308 : decode cX10_plan 308 = .ok (.iadd, 1) := by decide +kernel
theorem dX10_plan_309 : decode cX10_plan 309 = .ok (.iaload, 1) := by decide +kernel
theorem dX10_plan_310 : decode cX10_plan 310 = .ok (.iastore, 1) := by decide +kernel
theorem dX10_plan_311 : decode cX10_plan 311 = .ok (.aload_n 0, 1) := by decide +kernel
theorem dX10_plan_312 : decode cX10_plan 312 = .ok (.getfield 54, 3) := by decide +kernel
theorem dX10_plan_315 : decode cX10_plan 315 = .ok (.iload 6, 2) := by decide +kernel
theorem dX10_plan_317 : decode cX10_plan 317 = .ok (.aload_n 3, 1) := by decide +kernel
theorem dX10_plan_318 : decode cX10_plan 318 = .ok (.iconst 5, 1) := by decide +kernel
theorem dX10_plan_319 : decode cX10_plan 319 = .ok (.iload 5, 2) := by decide +kernel
theorem dX10_plan_321 : decode cX10_plan 321 = .ok (.imul, 1) := by decide +kernel
theorem dX10_plan_322 : decode cX10_plan 322 = .ok (.iconst 3, 1) := by decide +kernel
theorem dX10_plan_323 : decode cX10_plan 323 = .ok (.iadd, 1) := by decide +kernel
theorem dX10_plan_324 : decode cX10_plan 324 = .ok (.iaload, 1) := by decide +kernel
theorem dX10_plan_325 : decode cX10_plan 325 = .ok (.iastore, 1) := by decide +kernel
theorem dX10_plan_326 : decode cX10_plan 326 = .ok (.aload_n 0, 1) := by decide +kernel
theorem dX10_plan_327 : decode cX10_plan 327 = .ok (.getfield 57, 3) := by decide +kernel
theorem dX10_plan_330 : decode cX10_plan 330 = .ok (.iload 6, 2) := by decide +kernel
theorem dX10_plan_332 : decode cX10_plan 332 = .ok (.aload_n 3, 1) := by decide +kernel
theorem dX10_plan_333 : decode cX10_plan 333 = .ok (.iconst 5, 1) := by decide +kernel
theorem dX10_plan_334 : decode cX10_plan 334 = .ok (.iload 5, 2) := by decide +kernel
theorem dX10_plan_336 : decode cX10_plan 336 = .ok (.imul, 1) := by decide +kernel
theorem dX10_plan_337 : decode cX10_plan 337 = .ok (.iconst 4, 1) := by decide +kernel
theorem dX10_plan_338 : decode cX10_plan 338 = .ok (.iadd, 1) := by decide +kernel
theorem dX10_plan_339 : decode cX10_plan 339 = .ok (.iaload, 1) := by decide +kernel
theorem dX10_plan_340 : decode cX10_plan 340 = .ok (.iastore, 1) := by decide +kernel
theorem dX10_plan_341 : decode cX10_plan 341 = .ok (.iinc 5 1, 3) := by decide +kernel
theorem dX10_plan_344 : decode cX10_plan 344 = .ok (.goto (-94), 3) := by decide +kernel
theorem dX10_plan_347 : decode cX10_plan 347 = .ok (.iload 4, 2) := by decide +kernel
theorem dX10_plan_349 : decode cX10_plan 349 = .ok (.ireturn, 1) := by decide +kernel
theorem dX10_putAll_0 : decode cX10_putAll 0 = .ok (.iconst 0, 1) := by decide +kernel
theorem dX10_putAll_1 : decode cX10_putAll 1 = .ok (.istore 4, 2) := by decide +kernel
theorem dX10_putAll_3 : decode cX10_putAll 3 = .ok (.iload 4, 2) := by decide +kernel
theorem dX10_putAll_5 : decode cX10_putAll 5 = .ok (.sipush 480, 3) := by decide +kernel
theorem dX10_putAll_8 : decode cX10_putAll 8 = .ok (.if_icmp .ge 17, 3) := by decide +kernel
theorem dX10_putAll_11 : decode cX10_putAll 11 = .ok (.aload_n 0, 1) := by decide +kernel
theorem dX10_putAll_12 : decode cX10_putAll 12 = .ok (.getfield 93, 3) := by decide +kernel
theorem dX10_putAll_15 : decode cX10_putAll 15 = .ok (.iload 4, 2) := by decide +kernel
theorem dX10_putAll_17 : decode cX10_putAll 17 = .ok (.iconst (-1), 1) := by decide +kernel
theorem dX10_putAll_18 : decode cX10_putAll 18 = .ok (.iastore, 1) := by decide +kernel
theorem dX10_putAll_19 : decode cX10_putAll 19 = .ok (.iinc 4 1, 3) := by decide +kernel
theorem dX10_putAll_22 : decode cX10_putAll 22 = .ok (.goto (-19), 3) := by decide +kernel
theorem dX10_putAll_25 : decode cX10_putAll 25 = .ok (.iconst 0, 1) := by decide +kernel
theorem dX10_putAll_26 : decode cX10_putAll 26 = .ok (.istore 4, 2) := by decide +kernel
theorem dX10_putAll_28 : decode cX10_putAll 28 = .ok (.iload 4, 2) := by decide +kernel
theorem dX10_putAll_30 : decode cX10_putAll 30 = .ok (.bipush 80, 2) := by decide +kernel
theorem dX10_putAll_32 : decode cX10_putAll 32 = .ok (.if_icmp .gt 170, 3) := by decide +kernel
theorem dX10_putAll_35 : decode cX10_putAll 35 = .ok (.aload_n 0, 1) := by decide +kernel
theorem dX10_putAll_36 : decode cX10_putAll 36 = .ok (.getfield 96, 3) := by decide +kernel
theorem dX10_putAll_39 : decode cX10_putAll 39 = .ok (.iload 4, 2) := by decide +kernel
theorem dX10_putAll_41 : decode cX10_putAll 41 = .ok (.iconst 0, 1) := by decide +kernel
theorem dX10_putAll_42 : decode cX10_putAll 42 = .ok (.iastore, 1) := by decide +kernel
theorem dX10_putAll_43 : decode cX10_putAll 43 = .ok (.iconst 1, 1) := by decide +kernel
theorem dX10_putAll_44 : decode cX10_putAll 44 = .ok (.istore 5, 2) := by decide +kernel
theorem dX10_putAll_46 : decode cX10_putAll 46 = .ok (.iload 5, 2) := by decide +kernel
theorem dX10_putAll_48 : decode cX10_putAll 48 = .ok (.ifCond .eq 148, 3) := by decide +kernel
theorem dX10_putAll_51 : decode cX10_putAll 51 = .ok (.aload_n 0, 1) := by decide +kernel
theorem dX10_putAll_52 : decode cX10_putAll 52 = .ok (.getfield 96, 3) := by decide +kernel
theorem dX10_putAll_55 : decode cX10_putAll 55 = .ok (.iload 4, 2) := by decide +kernel
theorem dX10_putAll_57 : decode cX10_putAll 57 = .ok (.iaload, 1) := by decide +kernel
theorem dX10_putAll_58 : decode cX10_putAll 58 = .ok (.iload_n 3, 1) := by decide +kernel
theorem dX10_putAll_59 : decode cX10_putAll 59 = .ok (.if_icmp .ge 137, 3) := by decide +kernel
theorem dX10_putAll_62 : decode cX10_putAll 62 = .ok (.iconst (-1), 1) := by decide +kernel
theorem dX10_putAll_63 : decode cX10_putAll 63 = .ok (.istore 6, 2) := by decide +kernel
theorem dX10_putAll_65 : decode cX10_putAll 65 = .ok (.iconst 0, 1) := by decide +kernel
theorem dX10_putAll_66 : decode cX10_putAll 66 = .ok (.istore 7, 2) := by decide +kernel
theorem dX10_putAll_68 : decode cX10_putAll 68 = .ok (.iload 7, 2) := by decide +kernel
theorem dX10_putAll_70 : decode cX10_putAll 70 = .ok (.sipush 480, 3) := by decide +kernel
theorem dX10_putAll_73 : decode cX10_putAll 73 = .ok (.if_icmp .ge 67, 3) := by decide +kernel
theorem dX10_putAll_76 : decode cX10_putAll 76 = .ok (.aload_n 0, 1) := by decide +kernel
theorem dX10_putAll_77 : decode cX10_putAll 77 = .ok (.getfield 90, 3) := by decide +kernel
theorem dX10_putAll_80 : decode cX10_putAll 80 = .ok (.iload 7, 2) := by decide +kernel
theorem dX10_putAll_82 : decode cX10_putAll 82 = .ok (.iaload, 1) := by decide +kernel
theorem dX10_putAll_83 : decode cX10_putAll 83 = .ok (.ifCond .lt 51, 3) := by decide +kernel
theorem dX10_putAll_86 : decode cX10_putAll 86 = .ok (.aload_n 0, 1) := by decide +kernel
theorem dX10_putAll_87 : decode cX10_putAll 87 = .ok (.getfield 90, 3) := by decide +kernel
theorem dX10_putAll_90 : decode cX10_putAll 90 = .ok (.iload 7, 2) := by decide +kernel
theorem dX10_putAll_92 : decode cX10_putAll 92 = .ok (.iaload, 1) := by decide +kernel
theorem dX10_putAll_93 : decode cX10_putAll 93 = .ok (.iload 4, 2) := by decide +kernel
theorem dX10_putAll_95 : decode cX10_putAll 95 = .ok (.if_icmp .gt 39, 3) := by decide +kernel
theorem dX10_putAll_98 : decode cX10_putAll 98 = .ok (.aload_n 0, 1) := by decide +kernel
theorem dX10_putAll_99 : decode cX10_putAll 99 = .ok (.getfield 93, 3) := by decide +kernel
theorem dX10_putAll_102 : decode cX10_putAll 102 = .ok (.iload 7, 2) := by decide +kernel
theorem dX10_putAll_104 : decode cX10_putAll 104 = .ok (.iaload, 1) := by decide +kernel
theorem dX10_putAll_105 : decode cX10_putAll 105 = .ok (.ifCond .ge 29, 3) := by decide +kernel
theorem dX10_putAll_108 : decode cX10_putAll 108 = .ok (.iload 6, 2) := by decide +kernel
theorem dX10_putAll_110 : decode cX10_putAll 110 = .ok (.ifCond .lt 20, 3) := by decide +kernel
theorem dX10_putAll_113 : decode cX10_putAll 113 = .ok (.aload_n 0, 1) := by decide +kernel
theorem dX10_putAll_114 : decode cX10_putAll 114 = .ok (.getfield 90, 3) := by decide +kernel
theorem dX10_putAll_117 : decode cX10_putAll 117 = .ok (.iload 7, 2) := by decide +kernel
theorem dX10_putAll_119 : decode cX10_putAll 119 = .ok (.iaload, 1) := by decide +kernel
theorem dX10_putAll_120 : decode cX10_putAll 120 = .ok (.aload_n 0, 1) := by decide +kernel
theorem dX10_putAll_121 : decode cX10_putAll 121 = .ok (.getfield 90, 3) := by decide +kernel
theorem dX10_putAll_124 : decode cX10_putAll 124 = .ok (.iload 6, 2) := by decide +kernel
theorem dX10_putAll_126 : decode cX10_putAll 126 = .ok (.iaload, 1) := by decide +kernel
theorem dX10_putAll_127 : decode cX10_putAll 127 = .ok (.if_icmp .ge 7, 3) := by decide +kernel
theorem dX10_putAll_130 : decode cX10_putAll 130 = .ok (.iload 7, 2) := by decide +kernel
theorem dX10_putAll_132 : decode cX10_putAll 132 = .ok (.istore 6, 2) := by decide +kernel
theorem dX10_putAll_134 : decode cX10_putAll 134 = .ok (.iinc 7 1, 3) := by decide +kernel
theorem dX10_putAll_137 : decode cX10_putAll 137 = .ok (.goto (-69), 3) := by decide +kernel
theorem dX10_putAll_140 : decode cX10_putAll 140 = .ok (.iload 6, 2) := by decide +kernel
theorem dX10_putAll_142 : decode cX10_putAll 142 = .ok (.ifCond .lt 7, 3) := by decide +kernel
theorem dX10_putAll_145 : decode cX10_putAll 145 = .ok (.iconst 1, 1) := by decide +kernel
theorem dX10_putAll_146 : decode cX10_putAll 146 = .ok (.goto 4, 3) := by decide +kernel
theorem dX10_putAll_149 : decode cX10_putAll 149 = .ok (.iconst 0, 1) := by decide +kernel
theorem dX10_putAll_150 : decode cX10_putAll 150 = .ok (.istore 5, 2) := by decide +kernel
theorem dX10_putAll_152 : decode cX10_putAll 152 = .ok (.iload 5, 2) := by decide +kernel
theorem dX10_putAll_154 : decode cX10_putAll 154 = .ok (.ifCond .eq 39, 3) := by decide +kernel
theorem dX10_putAll_157 : decode cX10_putAll 157 = .ok (.iload 4, 2) := by decide +kernel
theorem dX10_putAll_159 : decode cX10_putAll 159 = .ok (.aload_n 0, 1) := by decide +kernel
theorem dX10_putAll_160 : decode cX10_putAll 160 = .ok (.getfield 90, 3) := by decide +kernel
theorem dX10_putAll_163 : decode cX10_putAll 163 = .ok (.iload 6, 2) := by decide +kernel
theorem dX10_putAll_165 : decode cX10_putAll 165 = .ok (.iaload, 1) := by decide +kernel
theorem dX10_putAll_166 : decode cX10_putAll 166 = .ok (.iload_n 2, 1) := by decide +kernel
theorem dX10_putAll_167 : decode cX10_putAll 167 = .ok (.iadd, 1) := by decide +kernel
theorem dX10_putAll_168 : decode cX10_putAll 168 = .ok (.if_icmp .le 5, 3) := by decide +kernel
theorem dX10_putAll_171 : decode cX10_putAll 171 = .ok (.iconst 0, 1) := by decide +kernel
theorem dX10_putAll_172 : decode cX10_putAll 172 = .ok (.ireturn, 1) := by decide +kernel
theorem dX10_putAll_173 : decode cX10_putAll 173 = .ok (.aload_n 0, 1) := by decide +kernel
theorem dX10_putAll_174 : decode cX10_putAll 174 = .ok (.getfield 93, 3) := by decide +kernel
theorem dX10_putAll_177 : decode cX10_putAll 177 = .ok (.iload 6, 2) := by decide +kernel
theorem dX10_putAll_179 : decode cX10_putAll 179 = .ok (.iload 4, 2) := by decide +kernel
theorem dX10_putAll_181 : decode cX10_putAll 181 = .ok (.iastore, 1) := by decide +kernel
theorem dX10_putAll_182 : decode cX10_putAll 182 = .ok (.aload_n 0, 1) := by decide +kernel
theorem dX10_putAll_183 : decode cX10_putAll 183 = .ok (.getfield 96, 3) := by decide +kernel
theorem dX10_putAll_186 : decode cX10_putAll 186 = .ok (.iload 4, 2) := by decide +kernel
theorem dX10_putAll_188 : decode cX10_putAll 188 = .ok (.dup2, 1) := by decide +kernel
theorem dX10_putAll_189 : decode cX10_putAll 189 = .ok (.iaload, 1) := by decide +kernel
theorem dX10_putAll_190 : decode cX10_putAll 190 = .ok (.iconst 1, 1) := by decide +kernel
theorem dX10_putAll_191 : decode cX10_putAll 191 = .ok (.iadd, 1) := by decide +kernel
theorem dX10_putAll_192 : decode cX10_putAll 192 = .ok (.iastore, 1) := by decide +kernel
theorem dX10_putAll_193 : decode cX10_putAll 193 = .ok (.goto (-147), 3) := by decide +kernel
theorem dX10_putAll_196 : decode cX10_putAll 196 = .ok (.iinc 4 1, 3) := by decide +kernel
theorem dX10_putAll_199 : decode cX10_putAll 199 = .ok (.goto (-171), 3) := by decide +kernel
theorem dX10_putAll_202 : decode cX10_putAll 202 = .ok (.iconst 0, 1) := by decide +kernel
theorem dX10_putAll_203 : decode cX10_putAll 203 = .ok (.istore 4, 2) := by decide +kernel
theorem dX10_putAll_205 : decode cX10_putAll 205 = .ok (.iload 4, 2) := by decide +kernel
theorem dX10_putAll_207 : decode cX10_putAll 207 = .ok (.sipush 480, 3) := by decide +kernel
theorem dX10_putAll_210 : decode cX10_putAll 210 = .ok (.if_icmp .ge 31, 3) := by decide +kernel
theorem dX10_putAll_213 : decode cX10_putAll 213 = .ok (.aload_n 0, 1) := by decide +kernel
theorem dX10_putAll_214 : decode cX10_putAll 214 = .ok (.getfield 90, 3) := by decide +kernel
theorem dX10_putAll_217 : decode cX10_putAll 217 = .ok (.iload 4, 2) := by decide +kernel
theorem dX10_putAll_219 : decode cX10_putAll 219 = .ok (.iaload, 1) := by decide +kernel
theorem dX10_putAll_220 : decode cX10_putAll 220 = .ok (.ifCond .lt 15, 3) := by decide +kernel
theorem dX10_putAll_223 : decode cX10_putAll 223 = .ok (.aload_n 0, 1) := by decide +kernel
theorem dX10_putAll_224 : decode cX10_putAll 224 = .ok (.getfield 93, 3) := by decide +kernel
theorem dX10_putAll_227 : decode cX10_putAll 227 = .ok (.iload 4, 2) := by decide +kernel
theorem dX10_putAll_229 : decode cX10_putAll 229 = .ok (.iaload, 1) := by decide +kernel
theorem dX10_putAll_230 : decode cX10_putAll 230 = .ok (.ifCond .ge 5, 3) := by decide +kernel
theorem dX10_putAll_233 : decode cX10_putAll 233 = .ok (.iconst 0, 1) := by decide +kernel
theorem dX10_putAll_234 : decode cX10_putAll 234 = .ok (.ireturn, 1) := by decide +kernel
theorem dX10_putAll_235 : decode cX10_putAll 235 = .ok (.iinc 4 1, 3) := by decide +kernel
theorem dX10_putAll_238 : decode cX10_putAll 238 = .ok (.goto (-33), 3) := by decide +kernel
theorem dX10_putAll_241 : decode cX10_putAll 241 = .ok (.iconst 1, 1) := by decide +kernel
theorem dX10_putAll_242 : decode cX10_putAll 242 = .ok (.ireturn, 1) := by decide +kernel
theorem dX10_even_0 : decode cX10_even 0 = .ok (.iload_n 1, 1) := by decide +kernel
theorem dX10_even_1 : decode cX10_even 1 = .ok (.invokestatic 190, 3) := by decide +kernel
theorem dX10_even_4 : decode cX10_even 4 = .ok (.ifCond .eq 13, 3) := by decide +kernel
theorem dX10_even_7 : decode cX10_even 7 = .ok (.iload_n 2, 1) := by decide +kernel
theorem dX10_even_8 : decode cX10_even 8 = .ok (.iconst 0, 1) := by decide +kernel
theorem dX10_even_9 : decode cX10_even 9 = .ok (.bipush 20, 2) := by decide +kernel
theorem dX10_even_11 : decode cX10_even 11 = .ok (.invokestatic 123, 3) := by decide +kernel
theorem dX10_even_14 : decode cX10_even 14 = .ok (.ifCond .ne 5, 3) := by decide +kernel
theorem dX10_even_17 : decode cX10_even 17 = .ok (.iconst (-1), 1) := by decide +kernel
theorem dX10_even_18 : decode cX10_even 18 = .ok (.ireturn, 1) := by decide +kernel
theorem dX10_even_19 : decode cX10_even 19 = .ok (.iconst 0, 1) := by decide +kernel
theorem dX10_even_20 : decode cX10_even 20 = .ok (.istore_n 3, 1) := by decide +kernel
theorem dX10_even_21 : decode cX10_even 21 = .ok (.iconst 0, 1) := by decide +kernel
theorem dX10_even_22 : decode cX10_even 22 = .ok (.istore 4, 2) := by decide +kernel
theorem dX10_even_24 : decode cX10_even 24 = .ok (.iload 4, 2) := by decide +kernel
theorem dX10_even_26 : decode cX10_even 26 = .ok (.sipush 480, 3) := by decide +kernel
theorem dX10_even_29 : decode cX10_even 29 = .ok (.if_icmp .ge 121, 3) := by decide +kernel
theorem dX10_even_32 : decode cX10_even 32 = .ok (.aload_n 0, 1) := by decide +kernel
theorem dX10_even_33 : decode cX10_even 33 = .ok (.getfield 90, 3) := by decide +kernel
theorem dX10_even_36 : decode cX10_even 36 = .ok (.iload 4, 2) := by decide +kernel
theorem dX10_even_38 : decode cX10_even 38 = .ok (.iconst (-1), 1) := by decide +kernel
theorem dX10_even_39 : decode cX10_even 39 = .ok (.iastore, 1) := by decide +kernel
theorem dX10_even_40 : decode cX10_even 40 = .ok (.aload_n 0, 1) := by decide +kernel
theorem dX10_even_41 : decode cX10_even 41 = .ok (.iload 4, 2) := by decide +kernel
theorem dX10_even_43 : decode cX10_even 43 = .ok (.iconst 4, 1) := by decide +kernel
theorem dX10_even_44 : decode cX10_even 44 = .ok (.idiv, 1) := by decide +kernel
theorem dX10_even_45 : decode cX10_even 45 = .ok (.iload 4, 2) := by decide +kernel
theorem dX10_even_47 : decode cX10_even 47 = .ok (.iconst 4, 1) := by decide +kernel
theorem dX10_even_48 : decode cX10_even 48 = .ok (.irem, 1) := by decide +kernel
theorem dX10_even_49 : decode cX10_even 49 = .ok (.invokevirtual 220, 3) := by decide +kernel
theorem dX10_even_52 : decode cX10_even 52 = .ok (.ifCond .eq 92, 3) := by decide +kernel
theorem dX10_even_55 : decode cX10_even 55 = .ok (.aload_n 0, 1) := by decide +kernel
theorem dX10_even_56 : decode cX10_even 56 = .ok (.iload_n 1, 1) := by decide +kernel
theorem dX10_even_57 : decode cX10_even 57 = .ok (.sipush 480, 3) := by decide +kernel
theorem dX10_even_60 : decode cX10_even 60 = .ok (.imul, 1) := by decide +kernel
theorem dX10_even_61 : decode cX10_even 61 = .ok (.iload 4, 2) := by decide +kernel
theorem dX10_even_63 : decode cX10_even 63 = .ok (.iadd, 1) := by decide +kernel
theorem dX10_even_64 : decode cX10_even 64 = .ok (.invokevirtual 180, 3) := by decide +kernel
theorem dX10_even_67 : decode cX10_even 67 = .ok (.aload_n 0, 1) := by decide +kernel
theorem dX10_even_68 : decode cX10_even 68 = .ok (.getfield 135, 3) := by decide +kernel
theorem dX10_even_71 : decode cX10_even 71 = .ok (.ifCond .eq 10, 3) := by decide +kernel
theorem dX10_even_74 : decode cX10_even 74 = .ok (.aload_n 0, 1) := by decide +kernel
theorem dX10_even_75 : decode cX10_even 75 = .ok (.invokevirtual 176, 3) := by decide +kernel
theorem dX10_even_78 : decode cX10_even 78 = .ok (.ifCond .eq 7, 3) := by decide +kernel
theorem dX10_even_81 : decode cX10_even 81 = .ok (.iconst (-1), 1) := by decide +kernel
theorem dX10_even_82 : decode cX10_even 82 = .ok (.goto 22, 3) := by decide +kernel
theorem dX10_even_85 : decode cX10_even 85 = .ok (.aload_n 0, 1) := by decide +kernel
theorem dX10_even_86 : decode cX10_even 86 = .ok (.aload_n 0, 1) := by decide +kernel
theorem dX10_even_87 : decode cX10_even 87 = .ok (.getfield 29, 3) := by decide +kernel
theorem dX10_even_90 : decode cX10_even 90 = .ok (.iload_n 1, 1) := by decide +kernel
theorem dX10_even_91 : decode cX10_even 91 = .ok (.iaload, 1) := by decide +kernel
theorem dX10_even_92 : decode cX10_even 92 = .ok (.aload_n 0, 1) := by decide +kernel
theorem dX10_even_93 : decode cX10_even 93 = .ok (.getfield 29, 3) := by decide +kernel
theorem dX10_even_96 : decode cX10_even 96 = .ok (.iload_n 1, 1) := by decide +kernel
theorem dX10_even_97 : decode cX10_even 97 = .ok (.iaload, 1) := by decide +kernel
theorem dX10_even_98 : decode cX10_even 98 = .ok (.bipush 60, 2) := by decide +kernel
theorem dX10_even_100 : decode cX10_even 100 = .ok (.iadd, 1) := by decide +kernel
theorem dX10_even_101 : decode cX10_even 101 = .ok (.invokevirtual 223, 3) := by decide +kernel
theorem dX10_even_104 : decode cX10_even 104 = .ok (.istore 5, 2) := by decide +kernel
theorem dX10_even_106 : decode cX10_even 106 = .ok (.aload_n 0, 1) := by decide +kernel
theorem dX10_even_107 : decode cX10_even 107 = .ok (.getfield 90, 3) := by decide +kernel
theorem dX10_even_110 : decode cX10_even 110 = .ok (.iload 4, 2) := by decide +kernel
theorem dX10_even_112 : decode cX10_even 112 = .ok (.iload 5, 2) := by decide +kernel
theorem dX10_even_114 : decode cX10_even 114 = .ok (.ifCond .ge 7, 3) := by decide +kernel
theorem dX10_even_117 : decode cX10_even 117 = .ok (.iconst (-1), 1) := by decide +kernel
theorem dX10_even_118 : decode cX10_even 118 = .ok (.goto 12, 3) := by decide +kernel
theorem dX10_even_121 : decode cX10_even 121 = .ok (.iload 5, 2) := by decide +kernel
theorem dX10_even_123 : decode cX10_even 123 = .ok (.aload_n 0, 1) := by decide +kernel
theorem dX10_even_124 : decode cX10_even 124 = .ok (.getfield 29, 3) := by decide +kernel
theorem dX10_even_127 : decode cX10_even 127 = .ok (.iload_n 1, 1) := by decide +kernel
theorem dX10_even_128 : decode cX10_even 128 = .ok (.iaload, 1) := by decide +kernel
theorem dX10_even_129 : decode cX10_even 129 = .ok (.isub, 1) := by decide +kernel
theorem dX10_even_130 : decode cX10_even 130 = .ok (.iastore, 1) := by decide +kernel
theorem dX10_even_131 : decode cX10_even 131 = .ok (.iload_n 3, 1) := by decide +kernel
theorem dX10_even_132 : decode cX10_even 132 = .ok (.iload 5, 2) := by decide +kernel
theorem dX10_even_134 : decode cX10_even 134 = .ok (.ifCond .ge 7, 3) := by decide +kernel
theorem dX10_even_137 : decode cX10_even 137 = .ok (.iconst 0, 1) := by decide +kernel
theorem dX10_even_138 : decode cX10_even 138 = .ok (.goto 4, 3) := by decide +kernel
theorem dX10_even_141 : decode cX10_even 141 = .ok (.iconst 1, 1) := by decide +kernel
theorem dX10_even_142 : decode cX10_even 142 = .ok (.iadd, 1) := by decide +kernel
theorem dX10_even_143 : decode cX10_even 143 = .ok (.istore_n 3, 1) := by decide +kernel
theorem dX10_even_144 : decode cX10_even 144 = .ok (.iinc 4 1, 3) := by decide +kernel
theorem dX10_even_147 : decode cX10_even 147 = .ok (.goto (-123), 3) := by decide +kernel
theorem dX10_even_150 : decode cX10_even 150 = .ok (.aload_n 0, 1) := by decide +kernel
theorem dX10_even_151 : decode cX10_even 151 = .ok (.iconst 1, 1) := by decide +kernel
theorem dX10_even_152 : decode cX10_even 152 = .ok (.putfield 233, 3) := by decide +kernel
theorem dX10_even_155 : decode cX10_even 155 = .ok (.iconst 0, 1) := by decide +kernel
theorem dX10_even_156 : decode cX10_even 156 = .ok (.istore 4, 2) := by decide +kernel
theorem dX10_even_158 : decode cX10_even 158 = .ok (.sipush 480, 3) := by decide +kernel
theorem dX10_even_161 : decode cX10_even 161 = .ok (.istore 5, 2) := by decide +kernel
theorem dX10_even_163 : decode cX10_even 163 = .ok (.iload 4, 2) := by decide +kernel
theorem dX10_even_165 : decode cX10_even 165 = .ok (.iload 5, 2) := by decide +kernel
theorem dX10_even_167 : decode cX10_even 167 = .ok (.if_icmp .ge 55, 3) := by decide +kernel
theorem dX10_even_170 : decode cX10_even 170 = .ok (.iload 4, 2) := by decide +kernel
theorem dX10_even_172 : decode cX10_even 172 = .ok (.iload 5, 2) := by decide +kernel
theorem dX10_even_174 : decode cX10_even 174 = .ok (.iadd, 1) := by decide +kernel
theorem dX10_even_175 : decode cX10_even 175 = .ok (.iconst 2, 1) := by decide +kernel
theorem dX10_even_176 : decode cX10_even 176 = .ok (.idiv, 1) := by decide +kernel
theorem dX10_even_177 : decode cX10_even 177 = .ok (.istore 6, 2) := by decide +kernel
theorem dX10_even_179 : decode cX10_even 179 = .ok (.aload_n 0, 1) := by decide +kernel
theorem dX10_even_180 : decode cX10_even 180 = .ok (.iload_n 1, 1) := by decide +kernel
theorem dX10_even_181 : decode cX10_even 181 = .ok (.iload_n 2, 1) := by decide +kernel
theorem dX10_even_182 : decode cX10_even 182 = .ok (.iload 6, 2) := by decide +kernel
theorem dX10_even_184 : decode cX10_even 184 = .ok (.invokevirtual 236, 3) := by decide +kernel
theorem dX10_even_187 : decode cX10_even 187 = .ok (.istore 7, 2) := by decide +kernel
theorem dX10_even_189 : decode cX10_even 189 = .ok (.iload 7, 2) := by decide +kernel
theorem dX10_even_191 : decode cX10_even 191 = .ok (.ifCond .eq 8, 3) := by decide +kernel
theorem dX10_even_194 : decode cX10_even 194 = .ok (.iload 4, 2) := by decide +kernel
theorem dX10_even_196 : decode cX10_even 196 = .ok (.goto 7, 3) := by decide +kernel
theorem dX10_even_199 : decode cX10_even 199 = .ok (.iload 6, 2) := by decide +kernel
theorem dX10_even_201 : decode cX10_even 201 = .ok (.iconst 1, 1) := by decide +kernel
theorem dX10_even_202 : decode cX10_even 202 = .ok (.iadd, 1) := by decide +kernel
theorem dX10_even_203 : decode cX10_even 203 = .ok (.istore 4, 2) := by decide +kernel
theorem dX10_even_205 : decode cX10_even 205 = .ok (.iload 7, 2) := by decide +kernel
theorem dX10_even_207 : decode cX10_even 207 = .ok (.ifCond .eq 8, 3) := by decide +kernel
theorem dX10_even_210 : decode cX10_even 210 = .ok (.iload 6, 2) := by decide +kernel
theorem dX10_even_212 : decode cX10_even 212 = .ok (.goto 5, 3) := by decide +kernel
theorem dX10_even_215 : decode cX10_even 215 = .ok (.iload 5, 2) := by decide +kernel
theorem dX10_even_217 : decode cX10_even 217 = .ok (.istore 5, 2) := by decide +kernel
theorem dX10_even_219 : decode cX10_even 219 = .ok (.goto (-56), 3) := by decide +kernel
theorem dX10_even_222 : decode cX10_even 222 = .ok (.aload_n 0, 1) := by decide +kernel
theorem dX10_even_223 : decode cX10_even 223 = .ok (.iload_n 1, 1) := by decide +kernel
theorem dX10_even_224 : decode cX10_even 224 = .ok (.iload_n 2, 1) := by decide +kernel
theorem dX10_even_225 : decode cX10_even 225 = .ok (.iload 4, 2) := by decide +kernel
theorem dX10_even_227 : decode cX10_even 227 = .ok (.invokevirtual 236, 3) := by decide +kernel
theorem dX10_even_230 : decode cX10_even 230 = .ok (.istore 6, 2) := by decide +kernel
theorem dX10_even_232 : decode cX10_even 232 = .ok (.iload 4, 2) := by decide +kernel
theorem dX10_even_234 : decode cX10_even 234 = .ok (.ireturn, 1) := by decide +kernel
theorem dX10_load_0 : decode cX10_load 0 = .ok (.aload_n 0, 1) := by decide +kernel
theorem dX10_load_1 : decode cX10_load 1 = .ok (.getfield 233, 3) := by decide +kernel
theorem dX10_load_4 : decode cX10_load 4 = .ok (.ifCond .eq 22, 3) := by decide +kernel
theorem dX10_load_7 : decode cX10_load 7 = .ok (.iload_n 1, 1) := by decide +kernel
theorem dX10_load_8 : decode cX10_load 8 = .ok (.iconst 0, 1) := by decide +kernel
theorem dX10_load_9 : decode cX10_load 9 = .ok (.bipush 80, 2) := by decide +kernel
theorem dX10_load_11 : decode cX10_load 11 = .ok (.invokestatic 123, 3) := by decide +kernel
theorem dX10_load_14 : decode cX10_load 14 = .ok (.ifCond .eq 12, 3) := by decide +kernel
theorem dX10_load_17 : decode cX10_load 17 = .ok (.aload_n 0, 1) := by decide +kernel
theorem dX10_load_18 : decode cX10_load 18 = .ok (.getfield 96, 3) := by decide +kernel
theorem dX10_load_21 : decode cX10_load 21 = .ok (.iload_n 1, 1) := by decide +kernel
theorem dX10_load_22 : decode cX10_load 22 = .ok (.iaload, 1) := by decide +kernel
theorem dX10_load_23 : decode cX10_load 23 = .ok (.goto 4, 3) := by decide +kernel
theorem dX10_load_26 : decode cX10_load 26 = .ok (.iconst (-1), 1) := by decide +kernel
theorem dX10_load_27 : decode cX10_load 27 = .ok (.ireturn, 1) := by decide +kernel
theorem dX10_put_0 : decode cX10_put 0 = .ok (.aload_n 0, 1) := by decide +kernel
theorem dX10_put_1 : decode cX10_put 1 = .ok (.getfield 233, 3) := by decide +kernel
theorem dX10_put_4 : decode cX10_put 4 = .ok (.ifCond .eq 25, 3) := by decide +kernel
theorem dX10_put_7 : decode cX10_put 7 = .ok (.aload_n 0, 1) := by decide +kernel
theorem dX10_put_8 : decode cX10_put 8 = .ok (.iload_n 1, 1) := by decide +kernel
theorem dX10_put_9 : decode cX10_put 9 = .ok (.iload_n 2, 1) := by decide +kernel
theorem dX10_put_10 : decode cX10_put 10 = .ok (.invokevirtual 220, 3) := by decide +kernel
theorem dX10_put_13 : decode cX10_put 13 = .ok (.ifCond .eq 16, 3) := by decide +kernel
theorem dX10_put_16 : decode cX10_put 16 = .ok (.aload_n 0, 1) := by decide +kernel
theorem dX10_put_17 : decode cX10_put 17 = .ok (.getfield 93, 3) := by decide +kernel
theorem dX10_put_20 : decode cX10_put 20 = .ok (.iconst 4, 1) := by decide +kernel
theorem dX10_put_21 : decode cX10_put 21 = .ok (.iload_n 1, 1) := by decide +kernel
theorem dX10_put_22 : decode cX10_put 22 = .ok (.imul, 1) := by decide +kernel
theorem dX10_put_23 : decode cX10_put 23 = .ok (.iload_n 2, 1) := by decide +kernel
theorem dX10_put_24 : decode cX10_put 24 = .ok (.iadd, 1) := by decide +kernel
theorem dX10_put_25 : decode cX10_put 25 = .ok (.iaload, 1) := by decide +kernel
theorem dX10_put_26 : decode cX10_put 26 = .ok (.goto 4, 3) := by decide +kernel
theorem dX10_put_29 : decode cX10_put 29 = .ok (.iconst (-1), 1) := by decide +kernel
theorem dX10_put_30 : decode cX10_put 30 = .ok (.ireturn, 1) := by decide +kernel
theorem dX10_greatest_0 : decode cX10_greatest 0 = .ok (.lconst 0, 1) := by decide +kernel
theorem dX10_greatest_1 : decode cX10_greatest 1 = .ok (.lstore_n 3, 1) := by decide +kernel
theorem dX10_greatest_2 : decode cX10_greatest 2 = .ok (.iconst 0, 1) := by decide +kernel
theorem dX10_greatest_3 : decode cX10_greatest 3 = .ok (.istore 5, 2) := by decide +kernel
theorem dX10_greatest_5 : decode cX10_greatest 5 = .ok (.iload 5, 2) := by decide +kernel
theorem dX10_greatest_7 : decode cX10_greatest 7 = .ok (.aload_n 0, 1) := by decide +kernel
theorem dX10_greatest_8 : decode cX10_greatest 8 = .ok (.getfield 239, 3) := by decide +kernel
theorem dX10_greatest_11 : decode cX10_greatest 11 = .ok (.if_icmp .ge 81, 3) := by decide +kernel
theorem dX10_greatest_14 : decode cX10_greatest 14 = .ok (.aload_n 0, 1) := by decide +kernel
theorem dX10_greatest_15 : decode cX10_greatest 15 = .ok (.getfield 99, 3) := by decide +kernel
theorem dX10_greatest_18 : decode cX10_greatest 18 = .ok (.iload 5, 2) := by decide +kernel
theorem dX10_greatest_20 : decode cX10_greatest 20 = .ok (.laload, 1) := by decide +kernel
theorem dX10_greatest_21 : decode cX10_greatest 21 = .ok (.iload 5, 2) := by decide +kernel
theorem dX10_greatest_23 : decode cX10_greatest 23 = .ok (.iload_n 1, 1) := by decide +kernel
theorem dX10_greatest_24 : decode cX10_greatest 24 = .ok (.if_icmp .lt 25, 3) := by decide +kernel
theorem dX10_greatest_27 : decode cX10_greatest 27 = .ok (.iload_n 2, 1) := by decide +kernel
theorem dX10_greatest_28 : decode cX10_greatest 28 = .ok (.ifCond .eq 14, 3) := by decide +kernel
theorem dX10_greatest_31 : decode cX10_greatest 31 = .ok (.sipush 1000, 3) := by decide +kernel
theorem dX10_greatest_34 : decode cX10_greatest 34 = .ok (.aload_n 0, 1) := by decide +kernel
theorem dX10_greatest_35 : decode cX10_greatest 35 = .ok (.getfield 242, 3) := by decide +kernel
theorem dX10_greatest_38 : decode cX10_greatest 38 = .ok (.isub, 1) := by decide +kernel
theorem dX10_greatest_39 : decode cX10_greatest 39 = .ok (.goto 29, 3) := by decide +kernel
theorem dX10_greatest_42 : decode cX10_greatest 42 = .ok (.aload_n 0, 1) := by decide +kernel
theorem dX10_greatest_43 : decode cX10_greatest 43 = .ok (.getfield 242, 3) := by decide +kernel
theorem dX10_greatest_46 : decode cX10_greatest 46 = .ok (.goto 22, 3) := by decide +kernel
theorem dX10_greatest_49 : decode cX10_greatest 49 = .ok (.iload_n 2, 1) := by decide +kernel
theorem dX10_greatest_50 : decode cX10_greatest 50 = .ok (.ifCond .eq 10, 3) := by decide +kernel
theorem dX10_greatest_53 : decode cX10_greatest 53 = .ok (.aload_n 0, 1) := by decide +kernel
theorem dX10_greatest_54 : decode cX10_greatest 54 = .ok (.getfield 245, 3) := by decide +kernel
theorem dX10_greatest_57 : decode cX10_greatest 57 = .ok (.goto 11, 3) := by decide +kernel
theorem dX10_greatest_60 : decode cX10_greatest 60 = .ok (.sipush 1000, 3) := by decide +kernel
theorem dX10_greatest_63 : decode cX10_greatest 63 = .ok (.aload_n 0, 1) := by decide +kernel
theorem dX10_greatest_64 : decode cX10_greatest 64 = .ok (.getfield 245, 3) := by decide +kernel
theorem dX10_greatest_67 : decode cX10_greatest 67 = .ok (.isub, 1) := by decide +kernel
theorem dX10_greatest_68 : decode cX10_greatest 68 = .ok (.i2l, 1) := by decide +kernel
theorem dX10_greatest_69 : decode cX10_greatest 69 = .ok (.lmul, 1) := by decide +kernel
theorem dX10_greatest_70 : decode cX10_greatest 70 = .ok (.lstore 6, 2) := by decide +kernel
theorem dX10_greatest_72 : decode cX10_greatest 72 = .ok (.lload 6, 2) := by decide +kernel
theorem dX10_greatest_74 : decode cX10_greatest 74 = .ok (.lload_n 3, 1) := by decide +kernel
theorem dX10_greatest_75 : decode cX10_greatest 75 = .ok (.lcmp, 1) := by decide +kernel
theorem dX10_greatest_76 : decode cX10_greatest 76 = .ok (.ifCond .le 8, 3) := by decide +kernel
theorem dX10_greatest_79 : decode cX10_greatest 79 = .ok (.lload 6, 2) := by decide +kernel
theorem dX10_greatest_81 : decode cX10_greatest 81 = .ok (.goto 4, 3) := by decide +kernel
theorem dX10_greatest_84 : decode cX10_greatest 84 = .ok (.lload_n 3, 1) := by decide +kernel
theorem dX10_greatest_85 : decode cX10_greatest 85 = .ok (.lstore_n 3, 1) := by decide +kernel
theorem dX10_greatest_86 : decode cX10_greatest 86 = .ok (.iinc 5 1, 3) := by decide +kernel
theorem dX10_greatest_89 : decode cX10_greatest 89 = .ok (.goto (-84), 3) := by decide +kernel
theorem dX10_greatest_92 : decode cX10_greatest 92 = .ok (.lload_n 3, 1) := by decide +kernel
theorem dX10_greatest_93 : decode cX10_greatest 93 = .ok (.lreturn, 1) := by decide +kernel
theorem dX10_bestQuestion_0 : decode cX10_bestQuestion 0 = .ok (.iconst 1, 1) := by decide +kernel
theorem dX10_bestQuestion_1 : decode cX10_bestQuestion 1 = .ok (.istore_n 1, 1) := by decide +kernel
theorem dX10_bestQuestion_2 : decode cX10_bestQuestion 2 = .ok (.iconst 2, 1) := by decide +kernel
theorem dX10_bestQuestion_3 : decode cX10_bestQuestion 3 = .ok (.istore_n 2, 1) := by decide +kernel
theorem dX10_bestQuestion_4 : decode cX10_bestQuestion 4 = .ok (.iload_n 2, 1) := by decide +kernel
theorem dX10_bestQuestion_5 : decode cX10_bestQuestion 5 = .ok (.aload_n 0, 1) := by decide +kernel
theorem dX10_bestQuestion_6 : decode cX10_bestQuestion 6 = .ok (.getfield 239, 3) := by decide +kernel
theorem dX10_bestQuestion_9 : decode cX10_bestQuestion 9 = .ok (.if_icmp .ge 45, 3) := by decide +kernel
theorem dX10_bestQuestion_12 : decode cX10_bestQuestion 12 = .ok (.aload_n 0, 1) := by decide +kernel
theorem dX10_bestQuestion_13 : decode cX10_bestQuestion 13 = .ok (.iload_n 2, 1) := by decide +kernel
theorem dX10_bestQuestion_14 : decode cX10_bestQuestion 14 = .ok (.iconst 1, 1) := by decide +kernel
theorem dX10_bestQuestion_15 : decode cX10_bestQuestion 15 = .ok (.invokevirtual 248, 3) := by decide +kernel
theorem dX10_bestQuestion_18 : decode cX10_bestQuestion 18 = .ok (.aload_n 0, 1) := by decide +kernel
theorem dX10_bestQuestion_19 : decode cX10_bestQuestion 19 = .ok (.iload_n 2, 1) := by decide +kernel
theorem dX10_bestQuestion_20 : decode cX10_bestQuestion 20 = .ok (.iconst 0, 1) := by decide +kernel
theorem dX10_bestQuestion_21 : decode cX10_bestQuestion 21 = .ok (.invokevirtual 248, 3) := by decide +kernel
theorem dX10_bestQuestion_24 : decode cX10_bestQuestion 24 = .ok (.ladd, 1) := by decide +kernel
theorem dX10_bestQuestion_25 : decode cX10_bestQuestion 25 = .ok (.aload_n 0, 1) := by decide +kernel
theorem dX10_bestQuestion_26 : decode cX10_bestQuestion 26 = .ok (.iload_n 1, 1) := by decide +kernel
theorem dX10_bestQuestion_27 : decode cX10_bestQuestion 27 = .ok (.iconst 1, 1) := by decide +kernel
theorem dX10_bestQuestion_28 : decode cX10_bestQuestion 28 = .ok (.invokevirtual 248, 3) := by decide +kernel
theorem dX10_bestQuestion_31 : decode cX10_bestQuestion 31 = .ok (.aload_n 0, 1) := by decide +kernel
theorem dX10_bestQuestion_32 : decode cX10_bestQuestion 32 = .ok (.iload_n 1, 1) := by decide +kernel
theorem dX10_bestQuestion_33 : decode cX10_bestQuestion 33 = .ok (.iconst 0, 1) := by decide +kernel
theorem dX10_bestQuestion_34 : decode cX10_bestQuestion 34 = .ok (.invokevirtual 248, 3) := by decide +kernel
theorem dX10_bestQuestion_37 : decode cX10_bestQuestion 37 = .ok (.ladd, 1) := by decide +kernel
theorem dX10_bestQuestion_38 : decode cX10_bestQuestion 38 = .ok (.lcmp, 1) := by decide +kernel
theorem dX10_bestQuestion_39 : decode cX10_bestQuestion 39 = .ok (.ifCond .le 7, 3) := by decide +kernel
theorem dX10_bestQuestion_42 : decode cX10_bestQuestion 42 = .ok (.iload_n 2, 1) := by decide +kernel
theorem dX10_bestQuestion_43 : decode cX10_bestQuestion 43 = .ok (.goto 4, 3) := by decide +kernel
theorem dX10_bestQuestion_46 : decode cX10_bestQuestion 46 = .ok (.iload_n 1, 1) := by decide +kernel
theorem dX10_bestQuestion_47 : decode cX10_bestQuestion 47 = .ok (.istore_n 1, 1) := by decide +kernel
theorem dX10_bestQuestion_48 : decode cX10_bestQuestion 48 = .ok (.iinc 2 1, 3) := by decide +kernel
theorem dX10_bestQuestion_51 : decode cX10_bestQuestion 51 = .ok (.goto (-47), 3) := by decide +kernel
theorem dX10_bestQuestion_54 : decode cX10_bestQuestion 54 = .ok (.iload_n 1, 1) := by decide +kernel
theorem dX10_bestQuestion_55 : decode cX10_bestQuestion 55 = .ok (.ireturn, 1) := by decide +kernel
theorem dX10_test_0 : decode cX10_test 0 = .ok (.iload_n 1, 1) := by decide +kernel
theorem dX10_test_1 : decode cX10_test 1 = .ok (.iconst 2, 1) := by decide +kernel
theorem dX10_test_2 : decode cX10_test 2 = .ok (.bipush 8, 2) := by decide +kernel
theorem dX10_test_4 : decode cX10_test 4 = .ok (.invokestatic 123, 3) := by decide +kernel
theorem dX10_test_7 : decode cX10_test 7 = .ok (.ifCond .eq 25, 3) := by decide +kernel
theorem dX10_test_10 : decode cX10_test 10 = .ok (.iload_n 2, 1) := by decide +kernel
theorem dX10_test_11 : decode cX10_test 11 = .ok (.iconst 1, 1) := by decide +kernel
theorem dX10_test_12 : decode cX10_test 12 = .ok (.sipush 499, 3) := by decide +kernel
theorem dX10_test_15 : decode cX10_test 15 = .ok (.invokestatic 123, 3) := by decide +kernel
theorem dX10_test_18 : decode cX10_test 18 = .ok (.ifCond .eq 14, 3) := by decide +kernel
theorem dX10_test_21 : decode cX10_test 21 = .ok (.iload_n 3, 1) := by decide +kernel
theorem dX10_test_22 : decode cX10_test 22 = .ok (.iconst 1, 1) := by decide +kernel
theorem dX10_test_23 : decode cX10_test 23 = .ok (.sipush 499, 3) := by decide +kernel
theorem dX10_test_26 : decode cX10_test 26 = .ok (.invokestatic 123, 3) := by decide +kernel
theorem dX10_test_29 : decode cX10_test 29 = .ok (.ifCond .ne 5, 3) := by decide +kernel
theorem dX10_test_32 : decode cX10_test 32 = .ok (.iconst (-1), 1) := by decide +kernel
theorem dX10_test_33 : decode cX10_test 33 = .ok (.ireturn, 1) := by decide +kernel
theorem dX10_test_34 : decode cX10_test 34 = .ok (.aload_n 0, 1) := by decide +kernel
theorem dX10_test_35 : decode cX10_test 35 = .ok (.iload_n 1, 1) := by decide +kernel
theorem dX10_test_36 : decode cX10_test 36 = .ok (.putfield 239, 3) := by decide +kernel
theorem dX10_test_39 : decode cX10_test 39 = .ok (.aload_n 0, 1) := by decide +kernel
theorem dX10_test_40 : decode cX10_test 40 = .ok (.iload_n 2, 1) := by decide +kernel
theorem dX10_test_41 : decode cX10_test 41 = .ok (.putfield 242, 3) := by decide +kernel
theorem dX10_test_44 : decode cX10_test 44 = .ok (.aload_n 0, 1) := by decide +kernel
theorem dX10_test_45 : decode cX10_test 45 = .ok (.iload_n 3, 1) := by decide +kernel
theorem dX10_test_46 : decode cX10_test 46 = .ok (.putfield 245, 3) := by decide +kernel
theorem dX10_test_49 : decode cX10_test 49 = .ok (.aload_n 0, 1) := by decide +kernel
theorem dX10_test_50 : decode cX10_test 50 = .ok (.iconst 0, 1) := by decide +kernel
theorem dX10_test_51 : decode cX10_test 51 = .ok (.putfield 252, 3) := by decide +kernel
theorem dX10_test_54 : decode cX10_test 54 = .ok (.aload_n 0, 1) := by decide +kernel
theorem dX10_test_55 : decode cX10_test 55 = .ok (.iconst 0, 1) := by decide +kernel
theorem dX10_test_56 : decode cX10_test 56 = .ok (.putfield 103, 3) := by decide +kernel
theorem dX10_test_59 : decode cX10_test 59 = .ok (.iconst 0, 1) := by decide +kernel
theorem dX10_test_60 : decode cX10_test 60 = .ok (.istore 4, 2) := by decide +kernel
theorem dX10_test_62 : decode cX10_test 62 = .ok (.iload 4, 2) := by decide +kernel
theorem dX10_test_64 : decode cX10_test 64 = .ok (.bipush 8, 2) := by decide +kernel
theorem dX10_test_66 : decode cX10_test 66 = .ok (.if_icmp .ge 27, 3) := by decide +kernel
theorem dX10_test_69 : decode cX10_test 69 = .ok (.aload_n 0, 1) := by decide +kernel
theorem dX10_test_70 : decode cX10_test 70 = .ok (.getfield 99, 3) := by decide +kernel
theorem dX10_test_73 : decode cX10_test 73 = .ok (.iload 4, 2) := by decide +kernel
theorem dX10_test_75 : decode cX10_test 75 = .ok (.iload 4, 2) := by decide +kernel
theorem dX10_test_77 : decode cX10_test 77 = .ok (.iload_n 1, 1) := by decide +kernel
theorem dX10_test_78 : decode cX10_test 78 = .ok (.if_icmp .ge 7, 3) := by decide +kernel
theorem dX10_test_81 : decode cX10_test 81 = .ok (.lconst 1, 1) := by decide +kernel
theorem dX10_test_82 : decode cX10_test 82 = .ok (.goto 4, 3) := by decide +kernel
theorem dX10_test_85 : decode cX10_test 85 = .ok (.lconst 0, 1) := by decide +kernel
theorem dX10_test_86 : decode cX10_test 86 = .ok (.lastore, 1) := by decide +kernel
theorem dX10_test_87 : decode cX10_test 87 = .ok (.iinc 4 1, 3) := by decide +kernel
theorem dX10_test_90 : decode cX10_test 90 = .ok (.goto (-28), 3) := by decide +kernel
theorem dX10_test_93 : decode cX10_test 93 = .ok (.aload_n 0, 1) := by decide +kernel
theorem dX10_test_94 : decode cX10_test 94 = .ok (.invokevirtual 255, 3) := by decide +kernel
theorem dX10_test_97 : decode cX10_test 97 = .ok (.ireturn, 1) := by decide +kernel
theorem dX10_told_0 : decode cX10_told 0 = .ok (.aload_n 0, 1) := by decide +kernel
theorem dX10_told_1 : decode cX10_told 1 = .ok (.getfield 103, 3) := by decide +kernel
theorem dX10_told_4 : decode cX10_told 4 = .ok (.ifCond .eq 6, 3) := by decide +kernel
theorem dX10_told_7 : decode cX10_told 7 = .ok (.bipush (-4), 2) := by decide +kernel
theorem dX10_told_9 : decode cX10_told 9 = .ok (.ireturn, 1) := by decide +kernel
theorem dX10_told_10 : decode cX10_told 10 = .ok (.iload_n 1, 1) := by decide +kernel
theorem dX10_told_11 : decode cX10_told 11 = .ok (.iconst 1, 1) := by decide +kernel
theorem dX10_told_12 : decode cX10_told 12 = .ok (.aload_n 0, 1) := by decide +kernel
theorem dX10_told_13 : decode cX10_told 13 = .ok (.getfield 239, 3) := by decide +kernel
theorem dX10_told_16 : decode cX10_told 16 = .ok (.iconst 1, 1) := by decide +kernel
theorem dX10_told_17 : decode cX10_told 17 = .ok (.isub, 1) := by decide +kernel
theorem dX10_told_18 : decode cX10_told 18 = .ok (.invokestatic 123, 3) := by decide +kernel
theorem dX10_told_21 : decode cX10_told 21 = .ok (.ifCond .eq 12, 3) := by decide +kernel
theorem dX10_told_24 : decode cX10_told 24 = .ok (.iload_n 2, 1) := by decide +kernel
theorem dX10_told_25 : decode cX10_told 25 = .ok (.iconst 0, 1) := by decide +kernel
theorem dX10_told_26 : decode cX10_told 26 = .ok (.iconst 1, 1) := by decide +kernel
theorem dX10_told_27 : decode cX10_told 27 = .ok (.invokestatic 123, 3) := by decide +kernel
theorem dX10_told_30 : decode cX10_told 30 = .ok (.ifCond .ne 5, 3) := by decide +kernel
theorem dX10_told_33 : decode cX10_told 33 = .ok (.iconst (-1), 1) := by decide +kernel
theorem dX10_told_34 : decode cX10_told 34 = .ok (.ireturn, 1) := by decide +kernel
theorem dX10_told_35 : decode cX10_told 35 = .ok (.lconst 0, 1) := by decide +kernel
theorem dX10_told_36 : decode cX10_told 36 = .ok (.lstore_n 3, 1) := by decide +kernel
theorem dX10_told_37 : decode cX10_told 37 = .ok (.iconst 0, 1) := by decide +kernel
theorem dX10_told_38 : decode cX10_told 38 = .ok (.istore 5, 2) := by decide +kernel
theorem dX10_told_40 : decode cX10_told 40 = .ok (.iload 5, 2) := by decide +kernel
theorem dX10_told_42 : decode cX10_told 42 = .ok (.aload_n 0, 1) := by decide +kernel
theorem dX10_told_43 : decode cX10_told 43 = .ok (.getfield 239, 3) := by decide +kernel
theorem dX10_told_46 : decode cX10_told 46 = .ok (.if_icmp .ge 106, 3) := by decide +kernel
theorem dX10_told_49 : decode cX10_told 49 = .ok (.aload_n 0, 1) := by decide +kernel
theorem dX10_told_50 : decode cX10_told 50 = .ok (.getfield 99, 3) := by decide +kernel
theorem dX10_told_53 : decode cX10_told 53 = .ok (.iload 5, 2) := by decide +kernel
theorem dX10_told_55 : decode cX10_told 55 = .ok (.aload_n 0, 1) := by decide +kernel
theorem dX10_told_56 : decode cX10_told 56 = .ok (.getfield 99, 3) := by decide +kernel
theorem dX10_told_59 : decode cX10_told 59 = .ok (.iload 5, 2) := by decide +kernel
theorem dX10_told_61 : decode cX10_told 61 = .ok (.laload, 1) := by decide +kernel
theorem dX10_told_62 : decode cX10_told 62 = .ok (.iload 5, 2) := by decide +kernel
theorem dX10_told_64 : decode cX10_told 64 = .ok (.iload_n 1, 1) := by decide +kernel
theorem dX10_told_65 : decode cX10_told 65 = .ok (.if_icmp .lt 26, 3) := by decide +kernel
theorem dX10_told_68 : decode cX10_told 68 = .ok (.iload_n 2, 1) := by decide +kernel
theorem dX10_told_69 : decode cX10_told 69 = .ok (.iconst 1, 1) := by decide +kernel
theorem dX10_told_70 : decode cX10_told 70 = .ok (.if_icmp .ne 14, 3) := by decide +kernel
theorem dX10_told_73 : decode cX10_told 73 = .ok (.sipush 1000, 3) := by decide +kernel
theorem dX10_told_76 : decode cX10_told 76 = .ok (.aload_n 0, 1) := by decide +kernel
theorem dX10_told_77 : decode cX10_told 77 = .ok (.getfield 242, 3) := by decide +kernel
theorem dX10_told_80 : decode cX10_told 80 = .ok (.isub, 1) := by decide +kernel
theorem dX10_told_81 : decode cX10_told 81 = .ok (.goto 30, 3) := by decide +kernel
theorem dX10_told_84 : decode cX10_told 84 = .ok (.aload_n 0, 1) := by decide +kernel
theorem dX10_told_85 : decode cX10_told 85 = .ok (.getfield 242, 3) := by decide +kernel
theorem dX10_told_88 : decode cX10_told 88 = .ok (.goto 23, 3) := by decide +kernel
theorem dX10_told_91 : decode cX10_told 91 = .ok (.iload_n 2, 1) := by decide +kernel
theorem dX10_told_92 : decode cX10_told 92 = .ok (.iconst 1, 1) := by decide +kernel
theorem dX10_told_93 : decode cX10_told 93 = .ok (.if_icmp .ne 10, 3) := by decide +kernel
theorem dX10_told_96 : decode cX10_told 96 = .ok (.aload_n 0, 1) := by decide +kernel
theorem dX10_told_97 : decode cX10_told 97 = .ok (.getfield 245, 3) := by decide +kernel
theorem dX10_told_100 : decode cX10_told 100 = .ok (.goto 11, 3) := by decide +kernel
theorem dX10_told_103 : decode cX10_told 103 = .ok (.sipush 1000, 3) := by decide +kernel
theorem dX10_told_106 : decode cX10_told 106 = .ok (.aload_n 0, 1) := by decide +kernel
theorem dX10_told_107 : decode cX10_told 107 = .ok (.getfield 245, 3) := by decide +kernel
theorem dX10_told_110 : decode cX10_told 110 = .ok (.isub, 1) := by decide +kernel
theorem dX10_told_111 : decode cX10_told 111 = .ok (.i2l, 1) := by decide +kernel
theorem dX10_told_112 : decode cX10_told 112 = .ok (.lmul, 1) := by decide +kernel
theorem dX10_told_113 : decode cX10_told 113 = .ok (.lastore, 1) := by decide +kernel
theorem dX10_told_114 : decode cX10_told 114 = .ok (.aload_n 0, 1) := by decide +kernel
theorem dX10_told_115 : decode cX10_told 115 = .ok (.getfield 99, 3) := by decide +kernel
theorem dX10_told_118 : decode cX10_told 118 = .ok (.iload 5, 2) := by decide +kernel
theorem dX10_told_120 : decode cX10_told 120 = .ok (.laload, 1) := by decide +kernel
theorem dX10_told_121 : decode cX10_told 121 = .ok (.lstore 6, 2) := by decide +kernel
theorem dX10_told_123 : decode cX10_told 123 = .ok (.lload 6, 2) := by decide +kernel
theorem dX10_told_125 : decode cX10_told 125 = .ok (.lconst 0, 1) := by decide +kernel
theorem dX10_told_126 : decode cX10_told 126 = .ok (.lcmp, 1) := by decide +kernel
theorem dX10_told_127 : decode cX10_told 127 = .ok (.ifCond .eq 19, 3) := by decide +kernel
theorem dX10_told_130 : decode cX10_told 130 = .ok (.lload_n 3, 1) := by decide +kernel
theorem dX10_told_131 : decode cX10_told 131 = .ok (.lload 6, 2) := by decide +kernel
theorem dX10_told_133 : decode cX10_told 133 = .ok (.lrem, 1) := by decide +kernel
theorem dX10_told_134 : decode cX10_told 134 = .ok (.lstore 8, 2) := by decide +kernel
theorem dX10_told_136 : decode cX10_told 136 = .ok (.lload 6, 2) := by decide +kernel
theorem dX10_told_138 : decode cX10_told 138 = .ok (.lstore_n 3, 1) := by decide +kernel
theorem dX10_told_139 : decode cX10_told 139 = .ok (.lload 8, 2) := by decide +kernel
theorem dX10_told_141 : decode cX10_told 141 = .ok (.lstore 6, 2) := by decide +kernel
theorem dX10_told_143 : decode cX10_told 143 = .ok (.goto (-20), 3) := by decide +kernel
theorem dX10_told_146 : decode cX10_told 146 = .ok (.iinc 5 1, 3) := by decide +kernel
theorem dX10_told_149 : decode cX10_told 149 = .ok (.goto (-109), 3) := by decide +kernel
theorem dX10_told_152 : decode cX10_told 152 = .ok (.lconst 0, 1) := by decide +kernel
theorem dX10_told_153 : decode cX10_told 153 = .ok (.lstore 5, 2) := by decide +kernel
theorem dX10_told_155 : decode cX10_told 155 = .ok (.lconst 0, 1) := by decide +kernel
theorem dX10_told_156 : decode cX10_told 156 = .ok (.lstore 7, 2) := by decide +kernel
theorem dX10_told_158 : decode cX10_told 158 = .ok (.iconst 0, 1) := by decide +kernel
theorem dX10_told_159 : decode cX10_told 159 = .ok (.istore 9, 2) := by decide +kernel
theorem dX10_told_161 : decode cX10_told 161 = .ok (.iload 9, 2) := by decide +kernel
theorem dX10_told_163 : decode cX10_told 163 = .ok (.aload_n 0, 1) := by decide +kernel
theorem dX10_told_164 : decode cX10_told 164 = .ok (.getfield 239, 3) := by decide +kernel
theorem dX10_told_167 : decode cX10_told 167 = .ok (.if_icmp .ge 64, 3) := by decide +kernel
theorem dX10_told_170 : decode cX10_told 170 = .ok (.aload_n 0, 1) := by decide +kernel
theorem dX10_told_171 : decode cX10_told 171 = .ok (.getfield 99, 3) := by decide +kernel
theorem dX10_told_174 : decode cX10_told 174 = .ok (.iload 9, 2) := by decide +kernel
theorem dX10_told_176 : decode cX10_told 176 = .ok (.aload_n 0, 1) := by decide +kernel
theorem dX10_told_177 : decode cX10_told 177 = .ok (.getfield 99, 3) := by decide +kernel
theorem dX10_told_180 : decode cX10_told 180 = .ok (.iload 9, 2) := by decide +kernel
theorem dX10_told_182 : decode cX10_told 182 = .ok (.laload, 1) := by decide +kernel
theorem dX10_told_183 : decode cX10_told 183 = .ok (.lload_n 3, 1) := by decide +kernel
theorem dX10_told_184 : decode cX10_told 184 = .ok (.ldiv, 1) := by decide +kernel
theorem dX10_told_185 : decode cX10_told 185 = .ok (.lastore, 1) := by decide +kernel
theorem dX10_told_186 : decode cX10_told 186 = .ok (.aload_n 0, 1) := by decide +kernel
theorem dX10_told_187 : decode cX10_told 187 = .ok (.getfield 99, 3) := by decide +kernel
theorem dX10_told_190 : decode cX10_told 190 = .ok (.iload 9, 2) := by decide +kernel
theorem dX10_told_192 : decode cX10_told 192 = .ok (.laload, 1) := by decide +kernel
theorem dX10_told_193 : decode cX10_told 193 = .ok (.lload 5, 2) := by decide +kernel
theorem dX10_told_195 : decode cX10_told 195 = .ok (.lcmp, 1) := by decide +kernel
theorem dX10_told_196 : decode cX10_told 196 = .ok (.ifCond .le 13, 3) := by decide +kernel
theorem dX10_told_199 : decode cX10_told 199 = .ok (.aload_n 0, 1) := by decide +kernel
theorem dX10_told_200 : decode cX10_told 200 = .ok (.getfield 99, 3) := by decide +kernel
theorem dX10_told_203 : decode cX10_told 203 = .ok (.iload 9, 2) := by decide +kernel
theorem dX10_told_205 : decode cX10_told 205 = .ok (.laload, 1) := by decide +kernel
theorem dX10_told_206 : decode cX10_told 206 = .ok (.goto 5, 3) := by decide +kernel
theorem dX10_told_209 : decode cX10_told 209 = .ok (.lload 5, 2) := by decide +kernel
theorem dX10_told_211 : decode cX10_told 211 = .ok (.lstore 5, 2) := by decide +kernel
theorem dX10_told_213 : decode cX10_told 213 = .ok (.lload 7, 2) := by decide +kernel
theorem dX10_told_215 : decode cX10_told 215 = .ok (.aload_n 0, 1) := by decide +kernel
theorem dX10_told_216 : decode cX10_told 216 = .ok (.getfield 99, 3) := by decide +kernel
theorem dX10_told_219 : decode cX10_told 219 = .ok (.iload 9, 2) := by decide +kernel
theorem dX10_told_221 : decode cX10_told 221 = .ok (.laload, 1) := by decide +kernel
theorem dX10_told_222 : decode cX10_told 222 = .ok (.ladd, 1) := by decide +kernel
theorem dX10_told_223 : decode cX10_told 223 = .ok (.lstore 7, 2) := by decide +kernel
theorem dX10_told_225 : decode cX10_told 225 = .ok (.iinc 9 1, 3) := by decide +kernel
theorem dX10_told_228 : decode cX10_told 228 = .ok (.goto (-67), 3) := by decide +kernel
theorem dX10_told_231 : decode cX10_told 231 = .ok (.aload_n 0, 1) := by decide +kernel
theorem dX10_told_232 : decode cX10_told 232 = .ok (.dup, 1) := by decide +kernel
theorem dX10_told_233 : decode cX10_told 233 = .ok (.getfield 252, 3) := by decide +kernel
theorem dX10_told_236 : decode cX10_told 236 = .ok (.iconst 1, 1) := by decide +kernel
theorem dX10_told_237 : decode cX10_told 237 = .ok (.iadd, 1) := by decide +kernel
theorem dX10_told_238 : decode cX10_told 238 = .ok (.putfield 252, 3) := by decide +kernel
theorem dX10_told_241 : decode cX10_told 241 = .ok (.aload_n 0, 1) := by decide +kernel
theorem dX10_told_242 : decode cX10_told 242 = .ok (.aload_n 0, 1) := by decide +kernel
theorem dX10_told_243 : decode cX10_told 243 = .ok (.getfield 252, 3) := by decide +kernel
theorem dX10_told_246 : decode cX10_told 246 = .ok (.bipush 6, 2) := by decide +kernel
theorem dX10_told_248 : decode cX10_told 248 = .ok (.if_icmp .eq 18, 3) := by decide +kernel
theorem dX10_told_251 : decode cX10_told 251 = .ok (.lload 5, 2) := by decide +kernel
theorem dX10_told_253 : decode cX10_told 253 = .ok (.ldc2_w 259, 3) := by decide +kernel
theorem dX10_told_256 : decode cX10_told 256 = .ok (.lload 7, 2) := by decide +kernel
theorem dX10_told_258 : decode cX10_told 258 = .ok (.lload 5, 2) := by decide +kernel
theorem dX10_told_260 : decode cX10_told 260 = .ok (.lsub, 1) := by decide +kernel
theorem dX10_told_261 : decode cX10_told 261 = .ok (.lmul, 1) := by decide +kernel
theorem dX10_told_262 : decode cX10_told 262 = .ok (.lcmp, 1) := by decide +kernel
theorem dX10_told_263 : decode cX10_told 263 = .ok (.ifCond .lt 7, 3) := by decide +kernel
theorem dX10_told_266 : decode cX10_told 266 = .ok (.iconst 1, 1) := by decide +kernel
theorem dX10_told_267 : decode cX10_told 267 = .ok (.goto 4, 3) := by decide +kernel
theorem dX10_told_270 : decode cX10_told 270 = .ok (.iconst 0, 1) := by decide +kernel
theorem dX10_told_271 : decode cX10_told 271 = .ok (.putfield 103, 3) := by decide +kernel
theorem dX10_told_274 : decode cX10_told 274 = .ok (.aload_n 0, 1) := by decide +kernel
theorem dX10_told_275 : decode cX10_told 275 = .ok (.getfield 103, 3) := by decide +kernel
theorem dX10_told_278 : decode cX10_told 278 = .ok (.ifCond .eq 7, 3) := by decide +kernel
theorem dX10_told_281 : decode cX10_told 281 = .ok (.iconst 0, 1) := by decide +kernel
theorem dX10_told_282 : decode cX10_told 282 = .ok (.goto 7, 3) := by decide +kernel
theorem dX10_told_285 : decode cX10_told 285 = .ok (.aload_n 0, 1) := by decide +kernel
theorem dX10_told_286 : decode cX10_told 286 = .ok (.invokevirtual 255, 3) := by decide +kernel
theorem dX10_told_289 : decode cX10_told 289 = .ok (.ireturn, 1) := by decide +kernel
theorem dX10_weight_0 : decode cX10_weight 0 = .ok (.iload_n 1, 1) := by decide +kernel
theorem dX10_weight_1 : decode cX10_weight 1 = .ok (.ifCond .lt 20, 3) := by decide +kernel
theorem dX10_weight_4 : decode cX10_weight 4 = .ok (.iload_n 1, 1) := by decide +kernel
theorem dX10_weight_5 : decode cX10_weight 5 = .ok (.aload_n 0, 1) := by decide +kernel
theorem dX10_weight_6 : decode cX10_weight 6 = .ok (.getfield 239, 3) := by decide +kernel
theorem dX10_weight_9 : decode cX10_weight 9 = .ok (.if_icmp .ge 12, 3) := by decide +kernel
theorem dX10_weight_12 : decode cX10_weight 12 = .ok (.aload_n 0, 1) := by decide +kernel
theorem dX10_weight_13 : decode cX10_weight 13 = .ok (.getfield 99, 3) := by decide +kernel
theorem dX10_weight_16 : decode cX10_weight 16 = .ok (.iload_n 1, 1) := by decide +kernel
theorem dX10_weight_17 : decode cX10_weight 17 = .ok (.laload, 1) := by decide +kernel
theorem dX10_weight_18 : decode cX10_weight 18 = .ok (.goto 6, 3) := by decide +kernel
theorem dX10_weight_21 : decode cX10_weight 21 = .ok (.ldc2_w 261, 3) := by decide +kernel
theorem dX10_weight_24 : decode cX10_weight 24 = .ok (.lreturn, 1) := by decide +kernel
theorem dX10_level_0 : decode cX10_level 0 = .ok (.aload_n 0, 1) := by decide +kernel
theorem dX10_level_1 : decode cX10_level 1 = .ok (.getfield 239, 3) := by decide +kernel
theorem dX10_level_4 : decode cX10_level 4 = .ok (.ifCond .ne 5, 3) := by decide +kernel
theorem dX10_level_7 : decode cX10_level 7 = .ok (.iconst (-1), 1) := by decide +kernel
theorem dX10_level_8 : decode cX10_level 8 = .ok (.ireturn, 1) := by decide +kernel
theorem dX10_level_9 : decode cX10_level 9 = .ok (.iconst 0, 1) := by decide +kernel
theorem dX10_level_10 : decode cX10_level 10 = .ok (.istore_n 1, 1) := by decide +kernel
theorem dX10_level_11 : decode cX10_level 11 = .ok (.iconst 1, 1) := by decide +kernel
theorem dX10_level_12 : decode cX10_level 12 = .ok (.istore_n 2, 1) := by decide +kernel
theorem dX10_level_13 : decode cX10_level 13 = .ok (.iload_n 2, 1) := by decide +kernel
theorem dX10_level_14 : decode cX10_level 14 = .ok (.aload_n 0, 1) := by decide +kernel
theorem dX10_level_15 : decode cX10_level 15 = .ok (.getfield 239, 3) := by decide +kernel
theorem dX10_level_18 : decode cX10_level 18 = .ok (.if_icmp .ge 31, 3) := by decide +kernel
theorem dX10_level_21 : decode cX10_level 21 = .ok (.aload_n 0, 1) := by decide +kernel
theorem dX10_level_22 : decode cX10_level 22 = .ok (.getfield 99, 3) := by decide +kernel
theorem dX10_level_25 : decode cX10_level 25 = .ok (.iload_n 2, 1) := by decide +kernel
theorem dX10_level_26 : decode cX10_level 26 = .ok (.laload, 1) := by decide +kernel
theorem dX10_level_27 : decode cX10_level 27 = .ok (.aload_n 0, 1) := by decide +kernel
theorem dX10_level_28 : decode cX10_level 28 = .ok (.getfield 99, 3) := by decide +kernel
theorem dX10_level_31 : decode cX10_level 31 = .ok (.iload_n 1, 1) := by decide +kernel
theorem dX10_level_32 : decode cX10_level 32 = .ok (.laload, 1) := by decide +kernel
theorem dX10_level_33 : decode cX10_level 33 = .ok (.lcmp, 1) := by decide +kernel
theorem dX10_level_34 : decode cX10_level 34 = .ok (.ifCond .le 7, 3) := by decide +kernel
theorem dX10_level_37 : decode cX10_level 37 = .ok (.iload_n 2, 1) := by decide +kernel
theorem dX10_level_38 : decode cX10_level 38 = .ok (.goto 4, 3) := by decide +kernel
theorem dX10_level_41 : decode cX10_level 41 = .ok (.iload_n 1, 1) := by decide +kernel
theorem dX10_level_42 : decode cX10_level 42 = .ok (.istore_n 1, 1) := by decide +kernel
theorem dX10_level_43 : decode cX10_level 43 = .ok (.iinc 2 1, 3) := by decide +kernel
theorem dX10_level_46 : decode cX10_level 46 = .ok (.goto (-33), 3) := by decide +kernel
theorem dX10_level_49 : decode cX10_level 49 = .ok (.iload_n 1, 1) := by decide +kernel
theorem dX10_level_50 : decode cX10_level 50 = .ok (.ireturn, 1) := by decide +kernel
theorem dX10_log_0 : decode cX10_log 0 = .ok (.aload_n 0, 1) := by decide +kernel
theorem dX10_log_1 : decode cX10_log 1 = .ok (.getfield 207, 3) := by decide +kernel
theorem dX10_log_4 : decode cX10_log 4 = .ok (.ireturn, 1) := by decide +kernel
theorem dX10_logged_0 : decode cX10_logged 0 = .ok (.iload_n 1, 1) := by decide +kernel
theorem dX10_logged_1 : decode cX10_logged 1 = .ok (.ifCond .lt 11, 3) := by decide +kernel
theorem dX10_logged_4 : decode cX10_logged 4 = .ok (.iload_n 1, 1) := by decide +kernel
theorem dX10_logged_5 : decode cX10_logged 5 = .ok (.aload_n 0, 1) := by decide +kernel
theorem dX10_logged_6 : decode cX10_logged 6 = .ok (.getfield 207, 3) := by decide +kernel
theorem dX10_logged_9 : decode cX10_logged 9 = .ok (.if_icmp .lt 5, 3) := by decide +kernel
theorem dX10_logged_12 : decode cX10_logged 12 = .ok (.iconst (-1), 1) := by decide +kernel
theorem dX10_logged_13 : decode cX10_logged 13 = .ok (.ireturn, 1) := by decide +kernel
theorem dX10_logged_14 : decode cX10_logged 14 = .ok (.aload_n 0, 1) := by decide +kernel
theorem dX10_logged_15 : decode cX10_logged 15 = .ok (.getfield 60, 3) := by decide +kernel
theorem dX10_logged_18 : decode cX10_logged 18 = .ok (.iload_n 1, 1) := by decide +kernel
theorem dX10_logged_19 : decode cX10_logged 19 = .ok (.iaload, 1) := by decide +kernel
theorem dX10_logged_20 : decode cX10_logged 20 = .ok (.sipush 480, 3) := by decide +kernel
theorem dX10_logged_23 : decode cX10_logged 23 = .ok (.irem, 1) := by decide +kernel
theorem dX10_logged_24 : decode cX10_logged 24 = .ok (.istore_n 3, 1) := by decide +kernel
theorem dX10_logged_25 : decode cX10_logged 25 = .ok (.iload_n 2, 1) := by decide +kernel
theorem dX10_logged_26 : decode cX10_logged 26 = .ok (.tableswitch 67 0 4 #[34, 45, 49, 53, 60], 34) := by decide +kernel
theorem dX10_logged_60 : decode cX10_logged 60 = .ok (.aload_n 0, 1) := by decide +kernel
theorem dX10_logged_61 : decode cX10_logged 61 = .ok (.getfield 60, 3) := by decide +kernel
theorem dX10_logged_64 : decode cX10_logged 64 = .ok (.iload_n 1, 1) := by decide +kernel
theorem dX10_logged_65 : decode cX10_logged 65 = .ok (.iaload, 1) := by decide +kernel
theorem dX10_logged_66 : decode cX10_logged 66 = .ok (.sipush 480, 3) := by decide +kernel
theorem dX10_logged_69 : decode cX10_logged 69 = .ok (.idiv, 1) := by decide +kernel
theorem dX10_logged_70 : decode cX10_logged 70 = .ok (.ireturn, 1) := by decide +kernel
theorem dX10_logged_71 : decode cX10_logged 71 = .ok (.iload_n 3, 1) := by decide +kernel
theorem dX10_logged_72 : decode cX10_logged 72 = .ok (.iconst 4, 1) := by decide +kernel
theorem dX10_logged_73 : decode cX10_logged 73 = .ok (.idiv, 1) := by decide +kernel
theorem dX10_logged_74 : decode cX10_logged 74 = .ok (.ireturn, 1) := by decide +kernel
theorem dX10_logged_75 : decode cX10_logged 75 = .ok (.iload_n 3, 1) := by decide +kernel
theorem dX10_logged_76 : decode cX10_logged 76 = .ok (.iconst 4, 1) := by decide +kernel
theorem dX10_logged_77 : decode cX10_logged 77 = .ok (.irem, 1) := by decide +kernel
theorem dX10_logged_78 : decode cX10_logged 78 = .ok (.ireturn, 1) := by decide +kernel
theorem dX10_logged_79 : decode cX10_logged 79 = .ok (.aload_n 0, 1) := by decide +kernel
theorem dX10_logged_80 : decode cX10_logged 80 = .ok (.getfield 63, 3) := by decide +kernel
theorem dX10_logged_83 : decode cX10_logged 83 = .ok (.iload_n 1, 1) := by decide +kernel
theorem dX10_logged_84 : decode cX10_logged 84 = .ok (.iaload, 1) := by decide +kernel
theorem dX10_logged_85 : decode cX10_logged 85 = .ok (.ireturn, 1) := by decide +kernel
theorem dX10_logged_86 : decode cX10_logged 86 = .ok (.aload_n 0, 1) := by decide +kernel
theorem dX10_logged_87 : decode cX10_logged 87 = .ok (.getfield 66, 3) := by decide +kernel
theorem dX10_logged_90 : decode cX10_logged 90 = .ok (.iload_n 1, 1) := by decide +kernel
theorem dX10_logged_91 : decode cX10_logged 91 = .ok (.iaload, 1) := by decide +kernel
theorem dX10_logged_92 : decode cX10_logged 92 = .ok (.ireturn, 1) := by decide +kernel
theorem dX10_logged_93 : decode cX10_logged 93 = .ok (.iconst (-1), 1) := by decide +kernel
theorem dX10_logged_94 : decode cX10_logged 94 = .ok (.ireturn, 1) := by decide +kernel
theorem dX10_replay_0 : decode cX10_replay 0 = .ok (.aload_n 0, 1) := by decide +kernel
theorem dX10_replay_1 : decode cX10_replay 1 = .ok (.invokevirtual 263, 3) := by decide +kernel
theorem dX10_replay_4 : decode cX10_replay 4 = .ok (.lconst 0, 1) := by decide +kernel
theorem dX10_replay_5 : decode cX10_replay 5 = .ok (.lstore_n 3, 1) := by decide +kernel
theorem dX10_replay_6 : decode cX10_replay 6 = .ok (.iconst 0, 1) := by decide +kernel
theorem dX10_replay_7 : decode cX10_replay 7 = .ok (.istore 5, 2) := by decide +kernel
theorem dX10_replay_9 : decode cX10_replay 9 = .ok (.iload 5, 2) := by decide +kernel
theorem dX10_replay_11 : decode cX10_replay 11 = .ok (.aload_n 0, 1) := by decide +kernel
theorem dX10_replay_12 : decode cX10_replay 12 = .ok (.getfield 207, 3) := by decide +kernel
theorem dX10_replay_15 : decode cX10_replay 15 = .ok (.if_icmp .ge 125, 3) := by decide +kernel
theorem dX10_replay_18 : decode cX10_replay 18 = .ok (.aload_n 0, 1) := by decide +kernel
theorem dX10_replay_19 : decode cX10_replay 19 = .ok (.getfield 60, 3) := by decide +kernel
theorem dX10_replay_22 : decode cX10_replay 22 = .ok (.iload 5, 2) := by decide +kernel
theorem dX10_replay_24 : decode cX10_replay 24 = .ok (.iaload, 1) := by decide +kernel
theorem dX10_replay_25 : decode cX10_replay 25 = .ok (.iload_n 1, 1) := by decide +kernel
theorem dX10_replay_26 : decode cX10_replay 26 = .ok (.if_icmp .ne 108, 3) := by decide +kernel
theorem dX10_replay_29 : decode cX10_replay 29 = .ok (.aload_n 0, 1) := by decide +kernel
theorem dX10_replay_30 : decode cX10_replay 30 = .ok (.getfield 135, 3) := by decide +kernel
theorem dX10_replay_33 : decode cX10_replay 33 = .ok (.ifCond .le 42, 3) := by decide +kernel
theorem dX10_replay_36 : decode cX10_replay 36 = .ok (.aload_n 0, 1) := by decide +kernel
theorem dX10_replay_37 : decode cX10_replay 37 = .ok (.aload_n 0, 1) := by decide +kernel
theorem dX10_replay_38 : decode cX10_replay 38 = .ok (.getfield 63, 3) := by decide +kernel
theorem dX10_replay_41 : decode cX10_replay 41 = .ok (.iload 5, 2) := by decide +kernel
theorem dX10_replay_43 : decode cX10_replay 43 = .ok (.iaload, 1) := by decide +kernel
theorem dX10_replay_44 : decode cX10_replay 44 = .ok (.invokevirtual 162, 3) := by decide +kernel
theorem dX10_replay_47 : decode cX10_replay 47 = .ok (.istore 6, 2) := by decide +kernel
theorem dX10_replay_49 : decode cX10_replay 49 = .ok (.lload_n 3, 1) := by decide +kernel
theorem dX10_replay_50 : decode cX10_replay 50 = .ok (.aload_n 0, 1) := by decide +kernel
theorem dX10_replay_51 : decode cX10_replay 51 = .ok (.getfield 66, 3) := by decide +kernel
theorem dX10_replay_54 : decode cX10_replay 54 = .ok (.iload 5, 2) := by decide +kernel
theorem dX10_replay_56 : decode cX10_replay 56 = .ok (.iaload, 1) := by decide +kernel
theorem dX10_replay_57 : decode cX10_replay 57 = .ok (.ifCond .ne 9, 3) := by decide +kernel
theorem dX10_replay_60 : decode cX10_replay 60 = .ok (.iload 6, 2) := by decide +kernel
theorem dX10_replay_62 : decode cX10_replay 62 = .ok (.i2l, 1) := by decide +kernel
theorem dX10_replay_63 : decode cX10_replay 63 = .ok (.goto 10, 3) := by decide +kernel
theorem dX10_replay_66 : decode cX10_replay 66 = .ok (.sipush 1000, 3) := by decide +kernel
theorem dX10_replay_69 : decode cX10_replay 69 = .ok (.iload 6, 2) := by decide +kernel
theorem dX10_replay_71 : decode cX10_replay 71 = .ok (.isub, 1) := by decide +kernel
theorem dX10_replay_72 : decode cX10_replay 72 = .ok (.i2l, 1) := by decide +kernel
theorem dX10_replay_73 : decode cX10_replay 73 = .ok (.ladd, 1) := by decide +kernel
theorem dX10_replay_74 : decode cX10_replay 74 = .ok (.lstore_n 3, 1) := by decide +kernel
theorem dX10_replay_75 : decode cX10_replay 75 = .ok (.aload_n 0, 1) := by decide +kernel
theorem dX10_replay_76 : decode cX10_replay 76 = .ok (.iload_n 2, 1) := by decide +kernel
theorem dX10_replay_77 : decode cX10_replay 77 = .ok (.ifCond .ge 13, 3) := by decide +kernel
theorem dX10_replay_80 : decode cX10_replay 80 = .ok (.aload_n 0, 1) := by decide +kernel
theorem dX10_replay_81 : decode cX10_replay 81 = .ok (.getfield 69, 3) := by decide +kernel
theorem dX10_replay_84 : decode cX10_replay 84 = .ok (.iload 5, 2) := by decide +kernel
theorem dX10_replay_86 : decode cX10_replay 86 = .ok (.iaload, 1) := by decide +kernel
theorem dX10_replay_87 : decode cX10_replay 87 = .ok (.goto 4, 3) := by decide +kernel
theorem dX10_replay_90 : decode cX10_replay 90 = .ok (.iload_n 2, 1) := by decide +kernel
theorem dX10_replay_91 : decode cX10_replay 91 = .ok (.iload_n 2, 1) := by decide +kernel
theorem dX10_replay_92 : decode cX10_replay 92 = .ok (.ifCond .ge 13, 3) := by decide +kernel
theorem dX10_replay_95 : decode cX10_replay 95 = .ok (.aload_n 0, 1) := by decide +kernel
theorem dX10_replay_96 : decode cX10_replay 96 = .ok (.getfield 72, 3) := by decide +kernel
theorem dX10_replay_99 : decode cX10_replay 99 = .ok (.iload 5, 2) := by decide +kernel
theorem dX10_replay_101 : decode cX10_replay 101 = .ok (.iaload, 1) := by decide +kernel
theorem dX10_replay_102 : decode cX10_replay 102 = .ok (.goto 15, 3) := by decide +kernel
theorem dX10_replay_105 : decode cX10_replay 105 = .ok (.aload_n 0, 1) := by decide +kernel
theorem dX10_replay_106 : decode cX10_replay 106 = .ok (.getfield 19, 3) := by decide +kernel
theorem dX10_replay_109 : decode cX10_replay 109 = .ok (.aload_n 0, 1) := by decide +kernel
theorem dX10_replay_110 : decode cX10_replay 110 = .ok (.getfield 66, 3) := by decide +kernel
theorem dX10_replay_113 : decode cX10_replay 113 = .ok (.iload 5, 2) := by decide +kernel
theorem dX10_replay_115 : decode cX10_replay 115 = .ok (.iaload, 1) := by decide +kernel
theorem dX10_replay_116 : decode cX10_replay 116 = .ok (.iaload, 1) := by decide +kernel
theorem dX10_replay_117 : decode cX10_replay 117 = .ok (.aload_n 0, 1) := by decide +kernel
theorem dX10_replay_118 : decode cX10_replay 118 = .ok (.getfield 66, 3) := by decide +kernel
theorem dX10_replay_121 : decode cX10_replay 121 = .ok (.iload 5, 2) := by decide +kernel
theorem dX10_replay_123 : decode cX10_replay 123 = .ok (.iaload, 1) := by decide +kernel
theorem dX10_replay_124 : decode cX10_replay 124 = .ok (.aload_n 0, 1) := by decide +kernel
theorem dX10_replay_125 : decode cX10_replay 125 = .ok (.getfield 63, 3) := by decide +kernel
theorem dX10_replay_128 : decode cX10_replay 128 = .ok (.iload 5, 2) := by decide +kernel
theorem dX10_replay_130 : decode cX10_replay 130 = .ok (.iaload, 1) := by decide +kernel
theorem dX10_replay_131 : decode cX10_replay 131 = .ok (.invokevirtual 210, 3) := by decide +kernel
theorem dX10_replay_134 : decode cX10_replay 134 = .ok (.iinc 5 1, 3) := by decide +kernel
theorem dX10_replay_137 : decode cX10_replay 137 = .ok (.goto (-128), 3) := by decide +kernel
theorem dX10_replay_140 : decode cX10_replay 140 = .ok (.lload_n 3, 1) := by decide +kernel
theorem dX10_replay_141 : decode cX10_replay 141 = .ok (.lreturn, 1) := by decide +kernel
theorem dX10_surpriseOf_0 : decode cX10_surpriseOf 0 = .ok (.lconst 0, 1) := by decide +kernel
theorem dX10_surpriseOf_1 : decode cX10_surpriseOf 1 = .ok (.lstore_n 3, 1) := by decide +kernel
theorem dX10_surpriseOf_2 : decode cX10_surpriseOf 2 = .ok (.iconst 0, 1) := by decide +kernel
theorem dX10_surpriseOf_3 : decode cX10_surpriseOf 3 = .ok (.istore 5, 2) := by decide +kernel
theorem dX10_surpriseOf_5 : decode cX10_surpriseOf 5 = .ok (.iload 5, 2) := by decide +kernel
theorem dX10_surpriseOf_7 : decode cX10_surpriseOf 7 = .ok (.sipush 480, 3) := by decide +kernel
theorem dX10_surpriseOf_10 : decode cX10_surpriseOf 10 = .ok (.if_icmp .ge 25, 3) := by decide +kernel
theorem dX10_surpriseOf_13 : decode cX10_surpriseOf 13 = .ok (.lload_n 3, 1) := by decide +kernel
theorem dX10_surpriseOf_14 : decode cX10_surpriseOf 14 = .ok (.aload_n 0, 1) := by decide +kernel
theorem dX10_surpriseOf_15 : decode cX10_surpriseOf 15 = .ok (.iload_n 1, 1) := by decide +kernel
theorem dX10_surpriseOf_16 : decode cX10_surpriseOf 16 = .ok (.sipush 480, 3) := by decide +kernel
theorem dX10_surpriseOf_19 : decode cX10_surpriseOf 19 = .ok (.imul, 1) := by decide +kernel
theorem dX10_surpriseOf_20 : decode cX10_surpriseOf 20 = .ok (.iload 5, 2) := by decide +kernel
theorem dX10_surpriseOf_22 : decode cX10_surpriseOf 22 = .ok (.iadd, 1) := by decide +kernel
theorem dX10_surpriseOf_23 : decode cX10_surpriseOf 23 = .ok (.iload_n 2, 1) := by decide +kernel
theorem dX10_surpriseOf_24 : decode cX10_surpriseOf 24 = .ok (.invokevirtual 266, 3) := by decide +kernel
theorem dX10_surpriseOf_27 : decode cX10_surpriseOf 27 = .ok (.ladd, 1) := by decide +kernel
theorem dX10_surpriseOf_28 : decode cX10_surpriseOf 28 = .ok (.lstore_n 3, 1) := by decide +kernel
theorem dX10_surpriseOf_29 : decode cX10_surpriseOf 29 = .ok (.iinc 5 1, 3) := by decide +kernel
theorem dX10_surpriseOf_32 : decode cX10_surpriseOf 32 = .ok (.goto (-27), 3) := by decide +kernel
theorem dX10_surpriseOf_35 : decode cX10_surpriseOf 35 = .ok (.lload_n 3, 1) := by decide +kernel
theorem dX10_surpriseOf_36 : decode cX10_surpriseOf 36 = .ok (.lreturn, 1) := by decide +kernel
theorem dX10_surprise_0 : decode cX10_surprise 0 = .ok (.iload_n 1, 1) := by decide +kernel
theorem dX10_surprise_1 : decode cX10_surprise 1 = .ok (.invokestatic 190, 3) := by decide +kernel
theorem dX10_surprise_4 : decode cX10_surprise 4 = .ok (.ifCond .eq 21, 3) := by decide +kernel
theorem dX10_surprise_7 : decode cX10_surprise 7 = .ok (.iload_n 2, 1) := by decide +kernel
theorem dX10_surprise_8 : decode cX10_surprise 8 = .ok (.iconst 0, 1) := by decide +kernel
theorem dX10_surprise_9 : decode cX10_surprise 9 = .ok (.iconst 2, 1) := by decide +kernel
theorem dX10_surprise_10 : decode cX10_surprise 10 = .ok (.invokestatic 123, 3) := by decide +kernel
theorem dX10_surprise_13 : decode cX10_surprise 13 = .ok (.ifCond .eq 12, 3) := by decide +kernel
theorem dX10_surprise_16 : decode cX10_surprise 16 = .ok (.aload_n 0, 1) := by decide +kernel
theorem dX10_surprise_17 : decode cX10_surprise 17 = .ok (.iload_n 1, 1) := by decide +kernel
theorem dX10_surprise_18 : decode cX10_surprise 18 = .ok (.iload_n 2, 1) := by decide +kernel
theorem dX10_surprise_19 : decode cX10_surprise 19 = .ok (.invokevirtual 270, 3) := by decide +kernel
theorem dX10_surprise_22 : decode cX10_surprise 22 = .ok (.goto 6, 3) := by decide +kernel
theorem dX10_surprise_25 : decode cX10_surprise 25 = .ok (.ldc2_w 261, 3) := by decide +kernel
theorem dX10_surprise_28 : decode cX10_surprise 28 = .ok (.lreturn, 1) := by decide +kernel
theorem dX10_better_0 : decode cX10_better 0 = .ok (.iload_n 1, 1) := by decide +kernel
theorem dX10_better_1 : decode cX10_better 1 = .ok (.invokestatic 190, 3) := by decide +kernel
theorem dX10_better_4 : decode cX10_better 4 = .ok (.ifCond .ne 5, 3) := by decide +kernel
theorem dX10_better_7 : decode cX10_better 7 = .ok (.iconst (-1), 1) := by decide +kernel
theorem dX10_better_8 : decode cX10_better 8 = .ok (.ireturn, 1) := by decide +kernel
theorem dX10_better_9 : decode cX10_better 9 = .ok (.iconst 0, 1) := by decide +kernel
theorem dX10_better_10 : decode cX10_better 10 = .ok (.istore_n 2, 1) := by decide +kernel
theorem dX10_better_11 : decode cX10_better 11 = .ok (.iconst 1, 1) := by decide +kernel
theorem dX10_better_12 : decode cX10_better 12 = .ok (.istore_n 3, 1) := by decide +kernel
theorem dX10_better_13 : decode cX10_better 13 = .ok (.iload_n 3, 1) := by decide +kernel
theorem dX10_better_14 : decode cX10_better 14 = .ok (.iconst 3, 1) := by decide +kernel
theorem dX10_better_15 : decode cX10_better 15 = .ok (.if_icmp .ge 31, 3) := by decide +kernel
theorem dX10_better_18 : decode cX10_better 18 = .ok (.aload_n 0, 1) := by decide +kernel
theorem dX10_better_19 : decode cX10_better 19 = .ok (.iload_n 1, 1) := by decide +kernel
theorem dX10_better_20 : decode cX10_better 20 = .ok (.iload_n 3, 1) := by decide +kernel
theorem dX10_better_21 : decode cX10_better 21 = .ok (.invokevirtual 270, 3) := by decide +kernel
theorem dX10_better_24 : decode cX10_better 24 = .ok (.aload_n 0, 1) := by decide +kernel
theorem dX10_better_25 : decode cX10_better 25 = .ok (.iload_n 1, 1) := by decide +kernel
theorem dX10_better_26 : decode cX10_better 26 = .ok (.iload_n 2, 1) := by decide +kernel
theorem dX10_better_27 : decode cX10_better 27 = .ok (.invokevirtual 270, 3) := by decide +kernel
theorem dX10_better_30 : decode cX10_better 30 = .ok (.lcmp, 1) := by decide +kernel
theorem dX10_better_31 : decode cX10_better 31 = .ok (.ifCond .ge 7, 3) := by decide +kernel
theorem dX10_better_34 : decode cX10_better 34 = .ok (.iload_n 3, 1) := by decide +kernel
theorem dX10_better_35 : decode cX10_better 35 = .ok (.goto 4, 3) := by decide +kernel
theorem dX10_better_38 : decode cX10_better 38 = .ok (.iload_n 2, 1) := by decide +kernel
theorem dX10_better_39 : decode cX10_better 39 = .ok (.istore_n 2, 1) := by decide +kernel
theorem dX10_better_40 : decode cX10_better 40 = .ok (.iinc 3 1, 3) := by decide +kernel
theorem dX10_better_43 : decode cX10_better 43 = .ok (.goto (-30), 3) := by decide +kernel
theorem dX10_better_46 : decode cX10_better 46 = .ok (.iload_n 2, 1) := by decide +kernel
theorem dX10_better_47 : decode cX10_better 47 = .ok (.ireturn, 1) := by decide +kernel
theorem dX10_other_0 : decode cX10_other 0 = .ok (.iload_n 1, 1) := by decide +kernel
theorem dX10_other_1 : decode cX10_other 1 = .ok (.invokestatic 190, 3) := by decide +kernel
theorem dX10_other_4 : decode cX10_other 4 = .ok (.ifCond .eq 22, 3) := by decide +kernel
theorem dX10_other_7 : decode cX10_other 7 = .ok (.iload_n 2, 1) := by decide +kernel
theorem dX10_other_8 : decode cX10_other 8 = .ok (.iconst 0, 1) := by decide +kernel
theorem dX10_other_9 : decode cX10_other 9 = .ok (.iconst 2, 1) := by decide +kernel
theorem dX10_other_10 : decode cX10_other 10 = .ok (.invokestatic 123, 3) := by decide +kernel
theorem dX10_other_13 : decode cX10_other 13 = .ok (.ifCond .eq 13, 3) := by decide +kernel
theorem dX10_other_16 : decode cX10_other 16 = .ok (.aload_n 0, 1) := by decide +kernel
theorem dX10_other_17 : decode cX10_other 17 = .ok (.iload_n 3, 1) := by decide +kernel
theorem dX10_other_18 : decode cX10_other 18 = .ok (.iload 4, 2) := by decide +kernel
theorem dX10_other_20 : decode cX10_other 20 = .ok (.invokevirtual 220, 3) := by decide +kernel
theorem dX10_other_23 : decode cX10_other 23 = .ok (.ifCond .ne 5, 3) := by decide +kernel
theorem dX10_other_26 : decode cX10_other 26 = .ok (.iconst (-1), 1) := by decide +kernel
theorem dX10_other_27 : decode cX10_other 27 = .ok (.ireturn, 1) := by decide +kernel
theorem dX10_other_28 : decode cX10_other 28 = .ok (.aload_n 0, 1) := by decide +kernel
theorem dX10_other_29 : decode cX10_other 29 = .ok (.iload_n 1, 1) := by decide +kernel
theorem dX10_other_30 : decode cX10_other 30 = .ok (.sipush 480, 3) := by decide +kernel
theorem dX10_other_33 : decode cX10_other 33 = .ok (.imul, 1) := by decide +kernel
theorem dX10_other_34 : decode cX10_other 34 = .ok (.iconst 4, 1) := by decide +kernel
theorem dX10_other_35 : decode cX10_other 35 = .ok (.iload_n 3, 1) := by decide +kernel
theorem dX10_other_36 : decode cX10_other 36 = .ok (.imul, 1) := by decide +kernel
theorem dX10_other_37 : decode cX10_other 37 = .ok (.iadd, 1) := by decide +kernel
theorem dX10_other_38 : decode cX10_other 38 = .ok (.iload 4, 2) := by decide +kernel
theorem dX10_other_40 : decode cX10_other 40 = .ok (.iadd, 1) := by decide +kernel
theorem dX10_other_41 : decode cX10_other 41 = .ok (.iload_n 2, 1) := by decide +kernel
theorem dX10_other_42 : decode cX10_other 42 = .ok (.invokevirtual 266, 3) := by decide +kernel
theorem dX10_other_45 : decode cX10_other 45 = .ok (.lstore 5, 2) := by decide +kernel
theorem dX10_other_47 : decode cX10_other 47 = .ok (.aload_n 0, 1) := by decide +kernel
theorem dX10_other_48 : decode cX10_other 48 = .ok (.getfield 135, 3) := by decide +kernel
theorem dX10_other_51 : decode cX10_other 51 = .ok (.ireturn, 1) := by decide +kernel
theorem dX10_check_0 : decode cX10_check 0 = .ok (.iload_n 1, 1) := by decide +kernel
theorem dX10_check_1 : decode cX10_check 1 = .ok (.invokestatic 190, 3) := by decide +kernel
theorem dX10_check_4 : decode cX10_check 4 = .ok (.ifCond .ne 5, 3) := by decide +kernel
theorem dX10_check_7 : decode cX10_check 7 = .ok (.iconst (-1), 1) := by decide +kernel
theorem dX10_check_8 : decode cX10_check 8 = .ok (.ireturn, 1) := by decide +kernel
theorem dX10_check_9 : decode cX10_check 9 = .ok (.iconst 1, 1) := by decide +kernel
theorem dX10_check_10 : decode cX10_check 10 = .ok (.istore_n 2, 1) := by decide +kernel
theorem dX10_check_11 : decode cX10_check 11 = .ok (.iload_n 1, 1) := by decide +kernel
theorem dX10_check_12 : decode cX10_check 12 = .ok (.sipush 480, 3) := by decide +kernel
theorem dX10_check_15 : decode cX10_check 15 = .ok (.imul, 1) := by decide +kernel
theorem dX10_check_16 : decode cX10_check 16 = .ok (.istore_n 3, 1) := by decide +kernel
theorem dX10_check_17 : decode cX10_check 17 = .ok (.iload_n 3, 1) := by decide +kernel
theorem dX10_check_18 : decode cX10_check 18 = .ok (.iload_n 1, 1) := by decide +kernel
theorem dX10_check_19 : decode cX10_check 19 = .ok (.iconst 1, 1) := by decide +kernel
theorem dX10_check_20 : decode cX10_check 20 = .ok (.iadd, 1) := by decide +kernel
theorem dX10_check_21 : decode cX10_check 21 = .ok (.sipush 480, 3) := by decide +kernel
theorem dX10_check_24 : decode cX10_check 24 = .ok (.imul, 1) := by decide +kernel
theorem dX10_check_25 : decode cX10_check 25 = .ok (.if_icmp .ge 92, 3) := by decide +kernel
theorem dX10_check_28 : decode cX10_check 28 = .ok (.iload_n 2, 1) := by decide +kernel
theorem dX10_check_29 : decode cX10_check 29 = .ok (.ifCond .eq 88, 3) := by decide +kernel
theorem dX10_check_32 : decode cX10_check 32 = .ok (.aload_n 0, 1) := by decide +kernel
theorem dX10_check_33 : decode cX10_check 33 = .ok (.iload_n 3, 1) := by decide +kernel
theorem dX10_check_34 : decode cX10_check 34 = .ok (.iconst (-1), 1) := by decide +kernel
theorem dX10_check_35 : decode cX10_check 35 = .ok (.invokevirtual 266, 3) := by decide +kernel
theorem dX10_check_38 : decode cX10_check 38 = .ok (.lstore 4, 2) := by decide +kernel
theorem dX10_check_40 : decode cX10_check 40 = .ok (.aload_n 0, 1) := by decide +kernel
theorem dX10_check_41 : decode cX10_check 41 = .ok (.getfield 135, 3) := by decide +kernel
theorem dX10_check_44 : decode cX10_check 44 = .ok (.aload_n 0, 1) := by decide +kernel
theorem dX10_check_45 : decode cX10_check 45 = .ok (.getfield 45, 3) := by decide +kernel
theorem dX10_check_48 : decode cX10_check 48 = .ok (.iload_n 3, 1) := by decide +kernel
theorem dX10_check_49 : decode cX10_check 49 = .ok (.iaload, 1) := by decide +kernel
theorem dX10_check_50 : decode cX10_check 50 = .ok (.if_icmp .ne 59, 3) := by decide +kernel
theorem dX10_check_53 : decode cX10_check 53 = .ok (.aload_n 0, 1) := by decide +kernel
theorem dX10_check_54 : decode cX10_check 54 = .ok (.getfield 138, 3) := by decide +kernel
theorem dX10_check_57 : decode cX10_check 57 = .ok (.aload_n 0, 1) := by decide +kernel
theorem dX10_check_58 : decode cX10_check 58 = .ok (.getfield 48, 3) := by decide +kernel
theorem dX10_check_61 : decode cX10_check 61 = .ok (.iload_n 3, 1) := by decide +kernel
theorem dX10_check_62 : decode cX10_check 62 = .ok (.iaload, 1) := by decide +kernel
theorem dX10_check_63 : decode cX10_check 63 = .ok (.if_icmp .ne 46, 3) := by decide +kernel
theorem dX10_check_66 : decode cX10_check 66 = .ok (.aload_n 0, 1) := by decide +kernel
theorem dX10_check_67 : decode cX10_check 67 = .ok (.getfield 141, 3) := by decide +kernel
theorem dX10_check_70 : decode cX10_check 70 = .ok (.aload_n 0, 1) := by decide +kernel
theorem dX10_check_71 : decode cX10_check 71 = .ok (.getfield 51, 3) := by decide +kernel
theorem dX10_check_74 : decode cX10_check 74 = .ok (.iload_n 3, 1) := by decide +kernel
theorem dX10_check_75 : decode cX10_check 75 = .ok (.iaload, 1) := by decide +kernel
theorem dX10_check_76 : decode cX10_check 76 = .ok (.if_icmp .ne 33, 3) := by decide +kernel
theorem dX10_check_79 : decode cX10_check 79 = .ok (.aload_n 0, 1) := by decide +kernel
theorem dX10_check_80 : decode cX10_check 80 = .ok (.getfield 144, 3) := by decide +kernel
theorem dX10_check_83 : decode cX10_check 83 = .ok (.aload_n 0, 1) := by decide +kernel
theorem dX10_check_84 : decode cX10_check 84 = .ok (.getfield 54, 3) := by decide +kernel
theorem dX10_check_87 : decode cX10_check 87 = .ok (.iload_n 3, 1) := by decide +kernel
theorem dX10_check_88 : decode cX10_check 88 = .ok (.iaload, 1) := by decide +kernel
theorem dX10_check_89 : decode cX10_check 89 = .ok (.if_icmp .ne 20, 3) := by decide +kernel
theorem dX10_check_92 : decode cX10_check 92 = .ok (.aload_n 0, 1) := by decide +kernel
theorem dX10_check_93 : decode cX10_check 93 = .ok (.getfield 147, 3) := by decide +kernel
theorem dX10_check_96 : decode cX10_check 96 = .ok (.aload_n 0, 1) := by decide +kernel
theorem dX10_check_97 : decode cX10_check 97 = .ok (.getfield 57, 3) := by decide +kernel
theorem dX10_check_100 : decode cX10_check 100 = .ok (.iload_n 3, 1) := by decide +kernel
theorem dX10_check_101 : decode cX10_check 101 = .ok (.iaload, 1) := by decide +kernel
theorem dX10_check_102 : decode cX10_check 102 = .ok (.if_icmp .ne 7, 3) := by decide +kernel
theorem dX10_check_105 : decode cX10_check 105 = .ok (.iconst 1, 1) := by decide +kernel
theorem dX10_check_106 : decode cX10_check 106 = .ok (.goto 4, 3) := by decide +kernel
theorem dX10_check_109 : decode cX10_check 109 = .ok (.iconst 0, 1) := by decide +kernel
theorem dX10_check_110 : decode cX10_check 110 = .ok (.istore_n 2, 1) := by decide +kernel
theorem dX10_check_111 : decode cX10_check 111 = .ok (.iinc 3 1, 3) := by decide +kernel
theorem dX10_check_114 : decode cX10_check 114 = .ok (.goto (-97), 3) := by decide +kernel
theorem dX10_check_117 : decode cX10_check 117 = .ok (.iload_n 2, 1) := by decide +kernel
theorem dX10_check_118 : decode cX10_check 118 = .ok (.ifCond .eq 7, 3) := by decide +kernel
theorem dX10_check_121 : decode cX10_check 121 = .ok (.iconst 1, 1) := by decide +kernel
theorem dX10_check_122 : decode cX10_check 122 = .ok (.goto 4, 3) := by decide +kernel
theorem dX10_check_125 : decode cX10_check 125 = .ok (.iconst 0, 1) := by decide +kernel
theorem dX10_check_126 : decode cX10_check 126 = .ok (.ireturn, 1) := by decide +kernel
