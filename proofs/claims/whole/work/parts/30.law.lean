theorem dL_law_0 : decode cL_law 0 = .ok (.new 7, 3) := by decide +kernel
theorem dL_law_3 : decode cL_law 3 = .ok (.dup, 1) := by decide +kernel
theorem dL_law_4 : decode cL_law 4 = .ok (.invokespecial 9, 3) := by decide +kernel
theorem dL_law_7 : decode cL_law 7 = .ok (.astore_n 1, 1) := by decide +kernel
theorem dL_law_8 : decode cL_law 8 = .ok (.new 10, 3) := by decide +kernel
theorem dL_law_11 : decode cL_law 11 = .ok (.dup, 1) := by decide +kernel
theorem dL_law_12 : decode cL_law 12 = .ok (.invokespecial 12, 3) := by decide +kernel
theorem dL_law_15 : decode cL_law 15 = .ok (.astore_n 2, 1) := by decide +kernel
theorem dL_law_16 : decode cL_law 16 = .ok (.iconst 0, 1) := by decide +kernel
theorem dL_law_17 : decode cL_law 17 = .ok (.istore_n 3, 1) := by decide +kernel
theorem dL_law_18 : decode cL_law 18 = .ok (.iload_n 3, 1) := by decide +kernel
theorem dL_law_19 : decode cL_law 19 = .ok (.aload_n 0, 1) := by decide +kernel
theorem dL_law_20 : decode cL_law 20 = .ok (.arraylength, 1) := by decide +kernel
theorem dL_law_21 : decode cL_law 21 = .ok (.iconst 5, 1) := by decide +kernel
theorem dL_law_22 : decode cL_law 22 = .ok (.isub, 1) := by decide +kernel
theorem dL_law_23 : decode cL_law 23 = .ok (.if_icmp .gt 1100, 3) := by decide +kernel
theorem dL_law_26 : decode cL_law 26 = .ok (.aload_n 0, 1) := by decide +kernel
theorem dL_law_27 : decode cL_law 27 = .ok (.iload_n 3, 1) := by decide +kernel
theorem dL_law_28 : decode cL_law 28 = .ok (.iaload, 1) := by decide +kernel
theorem dL_law_29 : decode cL_law 29 = .ok (.bipush 31, 2) := by decide +kernel
theorem dL_law_31 : decode cL_law 31 = .ok (.iand, 1) := by decide +kernel
theorem dL_law_32 : decode cL_law 32 = .ok (.tableswitch 1085 0 30 #[140, 163, 196, 219, 252, 285, 318, 341, 364, 397, 420, 463, 476, 529, 572, 605, 638, 671, 704, 737, 760, 793, 836, 869, 893, 906, 919, 952, 986, 1009, 1062], 140) := by decide +kernel
theorem dL_law_172 : decode cL_law 172 = .ok (.aload_n 1, 1) := by decide +kernel
theorem dL_law_173 : decode cL_law 173 = .ok (.aload_n 0, 1) := by decide +kernel
theorem dL_law_174 : decode cL_law 174 = .ok (.iload_n 3, 1) := by decide +kernel
theorem dL_law_175 : decode cL_law 175 = .ok (.iconst 1, 1) := by decide +kernel
theorem dL_law_176 : decode cL_law 176 = .ok (.iadd, 1) := by decide +kernel
theorem dL_law_177 : decode cL_law 177 = .ok (.iaload, 1) := by decide +kernel
theorem dL_law_178 : decode cL_law 178 = .ok (.invokevirtual 13, 3) := by decide +kernel
theorem dL_law_181 : decode cL_law 181 = .ok (.aload_n 2, 1) := by decide +kernel
theorem dL_law_182 : decode cL_law 182 = .ok (.aload_n 0, 1) := by decide +kernel
theorem dL_law_183 : decode cL_law 183 = .ok (.iload_n 3, 1) := by decide +kernel
theorem dL_law_184 : decode cL_law 184 = .ok (.iconst 1, 1) := by decide +kernel
theorem dL_law_185 : decode cL_law 185 = .ok (.iadd, 1) := by decide +kernel
theorem dL_law_186 : decode cL_law 186 = .ok (.iaload, 1) := by decide +kernel
theorem dL_law_187 : decode cL_law 187 = .ok (.invokevirtual 17, 3) := by decide +kernel
theorem dL_law_190 : decode cL_law 190 = .ok (.if_icmp .eq 927, 3) := by decide +kernel
theorem dL_law_193 : decode cL_law 193 = .ok (.iconst 0, 1) := by decide +kernel
theorem dL_law_194 : decode cL_law 194 = .ok (.ireturn, 1) := by decide +kernel
theorem dL_law_195 : decode cL_law 195 = .ok (.aload_n 1, 1) := by decide +kernel
theorem dL_law_196 : decode cL_law 196 = .ok (.aload_n 0, 1) := by decide +kernel
theorem dL_law_197 : decode cL_law 197 = .ok (.iload_n 3, 1) := by decide +kernel
theorem dL_law_198 : decode cL_law 198 = .ok (.iconst 1, 1) := by decide +kernel
theorem dL_law_199 : decode cL_law 199 = .ok (.iadd, 1) := by decide +kernel
theorem dL_law_200 : decode cL_law 200 = .ok (.iaload, 1) := by decide +kernel
theorem dL_law_201 : decode cL_law 201 = .ok (.aload_n 0, 1) := by decide +kernel
theorem dL_law_202 : decode cL_law 202 = .ok (.iload_n 3, 1) := by decide +kernel
theorem dL_law_203 : decode cL_law 203 = .ok (.iconst 2, 1) := by decide +kernel
theorem dL_law_204 : decode cL_law 204 = .ok (.iadd, 1) := by decide +kernel
theorem dL_law_205 : decode cL_law 205 = .ok (.iaload, 1) := by decide +kernel
theorem dL_law_206 : decode cL_law 206 = .ok (.invokevirtual 18, 3) := by decide +kernel
theorem dL_law_209 : decode cL_law 209 = .ok (.aload_n 2, 1) := by decide +kernel
theorem dL_law_210 : decode cL_law 210 = .ok (.aload_n 0, 1) := by decide +kernel
theorem dL_law_211 : decode cL_law 211 = .ok (.iload_n 3, 1) := by decide +kernel
theorem dL_law_212 : decode cL_law 212 = .ok (.iconst 1, 1) := by decide +kernel
theorem dL_law_213 : decode cL_law 213 = .ok (.iadd, 1) := by decide +kernel
theorem dL_law_214 : decode cL_law 214 = .ok (.iaload, 1) := by decide +kernel
theorem dL_law_215 : decode cL_law 215 = .ok (.aload_n 0, 1) := by decide +kernel
theorem dL_law_216 : decode cL_law 216 = .ok (.iload_n 3, 1) := by decide +kernel
theorem dL_law_217 : decode cL_law 217 = .ok (.iconst 2, 1) := by decide +kernel
theorem dL_law_218 : decode cL_law 218 = .ok (.iadd, 1) := by decide +kernel
theorem dL_law_219 : decode cL_law 219 = .ok (.iaload, 1) := by decide +kernel
theorem dL_law_220 : decode cL_law 220 = .ok (.invokevirtual 22, 3) := by decide +kernel
theorem dL_law_223 : decode cL_law 223 = .ok (.if_icmp .eq 894, 3) := by decide +kernel
theorem dL_law_226 : decode cL_law 226 = .ok (.iconst 0, 1) := by decide +kernel
theorem dL_law_227 : decode cL_law 227 = .ok (.ireturn, 1) := by decide +kernel
theorem dL_law_228 : decode cL_law 228 = .ok (.aload_n 1, 1) := by decide +kernel
theorem dL_law_229 : decode cL_law 229 = .ok (.aload_n 0, 1) := by decide +kernel
theorem dL_law_230 : decode cL_law 230 = .ok (.iload_n 3, 1) := by decide +kernel
theorem dL_law_231 : decode cL_law 231 = .ok (.iconst 1, 1) := by decide +kernel
theorem dL_law_232 : decode cL_law 232 = .ok (.iadd, 1) := by decide +kernel
theorem dL_law_233 : decode cL_law 233 = .ok (.iaload, 1) := by decide +kernel
theorem dL_law_234 : decode cL_law 234 = .ok (.invokevirtual 23, 3) := by decide +kernel
theorem dL_law_237 : decode cL_law 237 = .ok (.aload_n 2, 1) := by decide +kernel
theorem dL_law_238 : decode cL_law 238 = .ok (.aload_n 0, 1) := by decide +kernel
theorem dL_law_239 : decode cL_law 239 = .ok (.iload_n 3, 1) := by decide +kernel
theorem dL_law_240 : decode cL_law 240 = .ok (.iconst 1, 1) := by decide +kernel
theorem dL_law_241 : decode cL_law 241 = .ok (.iadd, 1) := by decide +kernel
theorem dL_law_242 : decode cL_law 242 = .ok (.iaload, 1) := by decide +kernel
theorem dL_law_243 : decode cL_law 243 = .ok (.invokevirtual 26, 3) := by decide +kernel
theorem dL_law_246 : decode cL_law 246 = .ok (.if_icmp .eq 871, 3) := by decide +kernel
theorem dL_law_249 : decode cL_law 249 = .ok (.iconst 0, 1) := by decide +kernel
theorem dL_law_250 : decode cL_law 250 = .ok (.ireturn, 1) := by decide +kernel
theorem dL_law_251 : decode cL_law 251 = .ok (.aload_n 1, 1) := by decide +kernel
theorem dL_law_252 : decode cL_law 252 = .ok (.aload_n 0, 1) := by decide +kernel
theorem dL_law_253 : decode cL_law 253 = .ok (.iload_n 3, 1) := by decide +kernel
theorem dL_law_254 : decode cL_law 254 = .ok (.iconst 1, 1) := by decide +kernel
theorem dL_law_255 : decode cL_law 255 = .ok (.iadd, 1) := by decide +kernel
theorem dL_law_256 : decode cL_law 256 = .ok (.iaload, 1) := by decide +kernel
theorem dL_law_257 : decode cL_law 257 = .ok (.aload_n 0, 1) := by decide +kernel
theorem dL_law_258 : decode cL_law 258 = .ok (.iload_n 3, 1) := by decide +kernel
theorem dL_law_259 : decode cL_law 259 = .ok (.iconst 2, 1) := by decide +kernel
theorem dL_law_260 : decode cL_law 260 = .ok (.iadd, 1) := by decide +kernel
theorem dL_law_261 : decode cL_law 261 = .ok (.iaload, 1) := by decide +kernel
theorem dL_law_262 : decode cL_law 262 = .ok (.invokevirtual 27, 3) := by decide +kernel
theorem dL_law_265 : decode cL_law 265 = .ok (.aload_n 2, 1) := by decide +kernel
theorem dL_law_266 : decode cL_law 266 = .ok (.aload_n 0, 1) := by decide +kernel
theorem dL_law_267 : decode cL_law 267 = .ok (.iload_n 3, 1) := by decide +kernel
theorem dL_law_268 : decode cL_law 268 = .ok (.iconst 1, 1) := by decide +kernel
theorem dL_law_269 : decode cL_law 269 = .ok (.iadd, 1) := by decide +kernel
theorem dL_law_270 : decode cL_law 270 = .ok (.iaload, 1) := by decide +kernel
theorem dL_law_271 : decode cL_law 271 = .ok (.aload_n 0, 1) := by decide +kernel
theorem dL_law_272 : decode cL_law 272 = .ok (.iload_n 3, 1) := by decide +kernel
theorem dL_law_273 : decode cL_law 273 = .ok (.iconst 2, 1) := by decide +kernel
theorem dL_law_274 : decode cL_law 274 = .ok (.iadd, 1) := by decide +kernel
theorem dL_law_275 : decode cL_law 275 = .ok (.iaload, 1) := by decide +kernel
theorem dL_law_276 : decode cL_law 276 = .ok (.invokevirtual 30, 3) := by decide +kernel
theorem dL_law_279 : decode cL_law 279 = .ok (.if_icmp .eq 838, 3) := by decide +kernel
theorem dL_law_282 : decode cL_law 282 = .ok (.iconst 0, 1) := by decide +kernel
theorem dL_law_283 : decode cL_law 283 = .ok (.ireturn, 1) := by decide +kernel
theorem dL_law_284 : decode cL_law 284 = .ok (.aload_n 1, 1) := by decide +kernel
theorem dL_law_285 : decode cL_law 285 = .ok (.aload_n 0, 1) := by decide +kernel
theorem dL_law_286 : decode cL_law 286 = .ok (.iload_n 3, 1) := by decide +kernel
theorem dL_law_287 : decode cL_law 287 = .ok (.iconst 1, 1) := by decide +kernel
theorem dL_law_288 : decode cL_law 288 = .ok (.iadd, 1) := by decide +kernel
theorem dL_law_289 : decode cL_law 289 = .ok (.iaload, 1) := by decide +kernel
theorem dL_law_290 : decode cL_law 290 = .ok (.aload_n 0, 1) := by decide +kernel
theorem dL_law_291 : decode cL_law 291 = .ok (.iload_n 3, 1) := by decide +kernel
theorem dL_law_292 : decode cL_law 292 = .ok (.iconst 2, 1) := by decide +kernel
theorem dL_law_293 : decode cL_law 293 = .ok (.iadd, 1) := by decide +kernel
theorem dL_law_294 : decode cL_law 294 = .ok (.iaload, 1) := by decide +kernel
theorem dL_law_295 : decode cL_law 295 = .ok (.invokevirtual 31, 3) := by decide +kernel
theorem dL_law_298 : decode cL_law 298 = .ok (.aload_n 2, 1) := by decide +kernel
theorem dL_law_299 : decode cL_law 299 = .ok (.aload_n 0, 1) := by decide +kernel
theorem dL_law_300 : decode cL_law 300 = .ok (.iload_n 3, 1) := by decide +kernel
theorem dL_law_301 : decode cL_law 301 = .ok (.iconst 1, 1) := by decide +kernel
theorem dL_law_302 : decode cL_law 302 = .ok (.iadd, 1) := by decide +kernel
theorem dL_law_303 : decode cL_law 303 = .ok (.iaload, 1) := by decide +kernel
theorem dL_law_304 : decode cL_law 304 = .ok (.aload_n 0, 1) := by decide +kernel
theorem dL_law_305 : decode cL_law 305 = .ok (.iload_n 3, 1) := by decide +kernel
theorem dL_law_306 : decode cL_law 306 = .ok (.iconst 2, 1) := by decide +kernel
theorem dL_law_307 : decode cL_law 307 = .ok (.iadd, 1) := by decide +kernel
theorem dL_law_308 : decode cL_law 308 = .ok (.iaload, 1) := by decide +kernel
theorem dL_law_309 : decode cL_law 309 = .ok (.invokevirtual 34, 3) := by decide +kernel
theorem dL_law_312 : decode cL_law 312 = .ok (.if_icmp .eq 805, 3) := by decide +kernel
theorem dL_law_315 : decode cL_law 315 = .ok (.iconst 0, 1) := by decide +kernel
theorem dL_law_316 : decode cL_law 316 = .ok (.ireturn, 1) := by decide +kernel
theorem dL_law_317 : decode cL_law 317 = .ok (.aload_n 1, 1) := by decide +kernel
theorem dL_law_318 : decode cL_law 318 = .ok (.aload_n 0, 1) := by decide +kernel
theorem dL_law_319 : decode cL_law 319 = .ok (.iload_n 3, 1) := by decide +kernel
theorem dL_law_320 : decode cL_law 320 = .ok (.iconst 1, 1) := by decide +kernel
theorem dL_law_321 : decode cL_law 321 = .ok (.iadd, 1) := by decide +kernel
theorem dL_law_322 : decode cL_law 322 = .ok (.iaload, 1) := by decide +kernel
theorem dL_law_323 : decode cL_law 323 = .ok (.aload_n 0, 1) := by decide +kernel
theorem dL_law_324 : decode cL_law 324 = .ok (.iload_n 3, 1) := by decide +kernel
theorem dL_law_325 : decode cL_law 325 = .ok (.iconst 2, 1) := by decide +kernel
theorem dL_law_326 : decode cL_law 326 = .ok (.iadd, 1) := by decide +kernel
theorem dL_law_327 : decode cL_law 327 = .ok (.iaload, 1) := by decide +kernel
theorem dL_law_328 : decode cL_law 328 = .ok (.invokevirtual 35, 3) := by decide +kernel
theorem dL_law_331 : decode cL_law 331 = .ok (.aload_n 2, 1) := by decide +kernel
theorem dL_law_332 : decode cL_law 332 = .ok (.aload_n 0, 1) := by decide +kernel
theorem dL_law_333 : decode cL_law 333 = .ok (.iload_n 3, 1) := by decide +kernel
theorem dL_law_334 : decode cL_law 334 = .ok (.iconst 1, 1) := by decide +kernel
theorem dL_law_335 : decode cL_law 335 = .ok (.iadd, 1) := by decide +kernel
theorem dL_law_336 : decode cL_law 336 = .ok (.iaload, 1) := by decide +kernel
theorem dL_law_337 : decode cL_law 337 = .ok (.aload_n 0, 1) := by decide +kernel
theorem dL_law_338 : decode cL_law 338 = .ok (.iload_n 3, 1) := by decide +kernel
theorem dL_law_339 : decode cL_law 339 = .ok (.iconst 2, 1) := by decide +kernel
theorem dL_law_340 : decode cL_law 340 = .ok (.iadd, 1) := by decide +kernel
theorem dL_law_341 : decode cL_law 341 = .ok (.iaload, 1) := by decide +kernel
theorem dL_law_342 : decode cL_law 342 = .ok (.invokevirtual 38, 3) := by decide +kernel
theorem dL_law_345 : decode cL_law 345 = .ok (.if_icmp .eq 772, 3) := by decide +kernel
theorem dL_law_348 : decode cL_law 348 = .ok (.iconst 0, 1) := by decide +kernel
theorem dL_law_349 : decode cL_law 349 = .ok (.ireturn, 1) := by decide +kernel
theorem dL_law_350 : decode cL_law 350 = .ok (.aload_n 1, 1) := by decide +kernel
theorem dL_law_351 : decode cL_law 351 = .ok (.aload_n 0, 1) := by decide +kernel
theorem dL_law_352 : decode cL_law 352 = .ok (.iload_n 3, 1) := by decide +kernel
theorem dL_law_353 : decode cL_law 353 = .ok (.iconst 1, 1) := by decide +kernel
theorem dL_law_354 : decode cL_law 354 = .ok (.iadd, 1) := by decide +kernel
theorem dL_law_355 : decode cL_law 355 = .ok (.iaload, 1) := by decide +kernel
theorem dL_law_356 : decode cL_law 356 = .ok (.invokevirtual 39, 3) := by decide +kernel
theorem dL_law_359 : decode cL_law 359 = .ok (.aload_n 2, 1) := by decide +kernel
theorem dL_law_360 : decode cL_law 360 = .ok (.aload_n 0, 1) := by decide +kernel
theorem dL_law_361 : decode cL_law 361 = .ok (.iload_n 3, 1) := by decide +kernel
theorem dL_law_362 : decode cL_law 362 = .ok (.iconst 1, 1) := by decide +kernel
theorem dL_law_363 : decode cL_law 363 = .ok (.iadd, 1) := by decide +kernel
theorem dL_law_364 : decode cL_law 364 = .ok (.iaload, 1) := by decide +kernel
theorem dL_law_365 : decode cL_law 365 = .ok (.invokevirtual 42, 3) := by decide +kernel
theorem dL_law_368 : decode cL_law 368 = .ok (.if_icmp .eq 749, 3) := by decide +kernel
theorem dL_law_371 : decode cL_law 371 = .ok (.iconst 0, 1) := by decide +kernel
theorem dL_law_372 : decode cL_law 372 = .ok (.ireturn, 1) := by decide +kernel
theorem dL_law_373 : decode cL_law 373 = .ok (.aload_n 1, 1) := by decide +kernel
theorem dL_law_374 : decode cL_law 374 = .ok (.aload_n 0, 1) := by decide +kernel
theorem dL_law_375 : decode cL_law 375 = .ok (.iload_n 3, 1) := by decide +kernel
theorem dL_law_376 : decode cL_law 376 = .ok (.iconst 1, 1) := by decide +kernel
theorem dL_law_377 : decode cL_law 377 = .ok (.iadd, 1) := by decide +kernel
theorem dL_law_378 : decode cL_law 378 = .ok (.iaload, 1) := by decide +kernel
theorem dL_law_379 : decode cL_law 379 = .ok (.invokevirtual 43, 3) := by decide +kernel
theorem dL_law_382 : decode cL_law 382 = .ok (.aload_n 2, 1) := by decide +kernel
theorem dL_law_383 : decode cL_law 383 = .ok (.aload_n 0, 1) := by decide +kernel
theorem dL_law_384 : decode cL_law 384 = .ok (.iload_n 3, 1) := by decide +kernel
theorem dL_law_385 : decode cL_law 385 = .ok (.iconst 1, 1) := by decide +kernel
theorem dL_law_386 : decode cL_law 386 = .ok (.iadd, 1) := by decide +kernel
theorem dL_law_387 : decode cL_law 387 = .ok (.iaload, 1) := by decide +kernel
theorem dL_law_388 : decode cL_law 388 = .ok (.invokevirtual 46, 3) := by decide +kernel
theorem dL_law_391 : decode cL_law 391 = .ok (.if_icmp .eq 726, 3) := by decide +kernel
theorem dL_law_394 : decode cL_law 394 = .ok (.iconst 0, 1) := by decide +kernel
theorem dL_law_395 : decode cL_law 395 = .ok (.ireturn, 1) := by decide +kernel
theorem dL_law_396 : decode cL_law 396 = .ok (.aload_n 1, 1) := by decide +kernel
theorem dL_law_397 : decode cL_law 397 = .ok (.aload_n 0, 1) := by decide +kernel
theorem dL_law_398 : decode cL_law 398 = .ok (.iload_n 3, 1) := by decide +kernel
theorem dL_law_399 : decode cL_law 399 = .ok (.iconst 1, 1) := by decide +kernel
theorem dL_law_400 : decode cL_law 400 = .ok (.iadd, 1) := by decide +kernel
theorem dL_law_401 : decode cL_law 401 = .ok (.iaload, 1) := by decide +kernel
theorem dL_law_402 : decode cL_law 402 = .ok (.aload_n 0, 1) := by decide +kernel
theorem dL_law_403 : decode cL_law 403 = .ok (.iload_n 3, 1) := by decide +kernel
theorem dL_law_404 : decode cL_law 404 = .ok (.iconst 2, 1) := by decide +kernel
theorem dL_law_405 : decode cL_law 405 = .ok (.iadd, 1) := by decide +kernel
theorem dL_law_406 : decode cL_law 406 = .ok (.iaload, 1) := by decide +kernel
theorem dL_law_407 : decode cL_law 407 = .ok (.invokevirtual 47, 3) := by decide +kernel
theorem dL_law_410 : decode cL_law 410 = .ok (.aload_n 2, 1) := by decide +kernel
theorem dL_law_411 : decode cL_law 411 = .ok (.aload_n 0, 1) := by decide +kernel
theorem dL_law_412 : decode cL_law 412 = .ok (.iload_n 3, 1) := by decide +kernel
theorem dL_law_413 : decode cL_law 413 = .ok (.iconst 1, 1) := by decide +kernel
theorem dL_law_414 : decode cL_law 414 = .ok (.iadd, 1) := by decide +kernel
theorem dL_law_415 : decode cL_law 415 = .ok (.iaload, 1) := by decide +kernel
theorem dL_law_416 : decode cL_law 416 = .ok (.aload_n 0, 1) := by decide +kernel
theorem dL_law_417 : decode cL_law 417 = .ok (.iload_n 3, 1) := by decide +kernel
theorem dL_law_418 : decode cL_law 418 = .ok (.iconst 2, 1) := by decide +kernel
theorem dL_law_419 : decode cL_law 419 = .ok (.iadd, 1) := by decide +kernel
theorem dL_law_420 : decode cL_law 420 = .ok (.iaload, 1) := by decide +kernel
theorem dL_law_421 : decode cL_law 421 = .ok (.invokevirtual 50, 3) := by decide +kernel
theorem dL_law_424 : decode cL_law 424 = .ok (.if_icmp .eq 693, 3) := by decide +kernel
theorem dL_law_427 : decode cL_law 427 = .ok (.iconst 0, 1) := by decide +kernel
theorem dL_law_428 : decode cL_law 428 = .ok (.ireturn, 1) := by decide +kernel
theorem dL_law_429 : decode cL_law 429 = .ok (.aload_n 1, 1) := by decide +kernel
theorem dL_law_430 : decode cL_law 430 = .ok (.aload_n 0, 1) := by decide +kernel
theorem dL_law_431 : decode cL_law 431 = .ok (.iload_n 3, 1) := by decide +kernel
theorem dL_law_432 : decode cL_law 432 = .ok (.iconst 1, 1) := by decide +kernel
theorem dL_law_433 : decode cL_law 433 = .ok (.iadd, 1) := by decide +kernel
theorem dL_law_434 : decode cL_law 434 = .ok (.iaload, 1) := by decide +kernel
theorem dL_law_435 : decode cL_law 435 = .ok (.invokevirtual 51, 3) := by decide +kernel
theorem dL_law_438 : decode cL_law 438 = .ok (.aload_n 2, 1) := by decide +kernel
theorem dL_law_439 : decode cL_law 439 = .ok (.aload_n 0, 1) := by decide +kernel
theorem dL_law_440 : decode cL_law 440 = .ok (.iload_n 3, 1) := by decide +kernel
theorem dL_law_441 : decode cL_law 441 = .ok (.iconst 1, 1) := by decide +kernel
theorem dL_law_442 : decode cL_law 442 = .ok (.iadd, 1) := by decide +kernel
theorem dL_law_443 : decode cL_law 443 = .ok (.iaload, 1) := by decide +kernel
theorem dL_law_444 : decode cL_law 444 = .ok (.invokevirtual 54, 3) := by decide +kernel
theorem dL_law_447 : decode cL_law 447 = .ok (.if_icmp .eq 670, 3) := by decide +kernel
theorem dL_law_450 : decode cL_law 450 = .ok (.iconst 0, 1) := by decide +kernel
theorem dL_law_451 : decode cL_law 451 = .ok (.ireturn, 1) := by decide +kernel
theorem dL_law_452 : decode cL_law 452 = .ok (.aload_n 1, 1) := by decide +kernel
theorem dL_law_453 : decode cL_law 453 = .ok (.aload_n 0, 1) := by decide +kernel
theorem dL_law_454 : decode cL_law 454 = .ok (.iload_n 3, 1) := by decide +kernel
theorem dL_law_455 : decode cL_law 455 = .ok (.iconst 1, 1) := by decide +kernel
theorem dL_law_456 : decode cL_law 456 = .ok (.iadd, 1) := by decide +kernel
theorem dL_law_457 : decode cL_law 457 = .ok (.iaload, 1) := by decide +kernel
theorem dL_law_458 : decode cL_law 458 = .ok (.aload_n 0, 1) := by decide +kernel
theorem dL_law_459 : decode cL_law 459 = .ok (.iload_n 3, 1) := by decide +kernel
theorem dL_law_460 : decode cL_law 460 = .ok (.iconst 2, 1) := by decide +kernel
theorem dL_law_461 : decode cL_law 461 = .ok (.iadd, 1) := by decide +kernel
theorem dL_law_462 : decode cL_law 462 = .ok (.iaload, 1) := by decide +kernel
theorem dL_law_463 : decode cL_law 463 = .ok (.aload_n 0, 1) := by decide +kernel
theorem dL_law_464 : decode cL_law 464 = .ok (.iload_n 3, 1) := by decide +kernel
theorem dL_law_465 : decode cL_law 465 = .ok (.iconst 3, 1) := by decide +kernel
theorem dL_law_466 : decode cL_law 466 = .ok (.iadd, 1) := by decide +kernel
theorem dL_law_467 : decode cL_law 467 = .ok (.iaload, 1) := by decide +kernel
theorem dL_law_468 : decode cL_law 468 = .ok (.invokevirtual 55, 3) := by decide +kernel
theorem dL_law_471 : decode cL_law 471 = .ok (.aload_n 2, 1) := by decide +kernel
theorem dL_law_472 : decode cL_law 472 = .ok (.aload_n 0, 1) := by decide +kernel
theorem dL_law_473 : decode cL_law 473 = .ok (.iload_n 3, 1) := by decide +kernel
theorem dL_law_474 : decode cL_law 474 = .ok (.iconst 1, 1) := by decide +kernel
theorem dL_law_475 : decode cL_law 475 = .ok (.iadd, 1) := by decide +kernel
theorem dL_law_476 : decode cL_law 476 = .ok (.iaload, 1) := by decide +kernel
theorem dL_law_477 : decode cL_law 477 = .ok (.aload_n 0, 1) := by decide +kernel
theorem dL_law_478 : decode cL_law 478 = .ok (.iload_n 3, 1) := by decide +kernel
theorem dL_law_479 : decode cL_law 479 = .ok (.iconst 2, 1) := by decide +kernel
theorem dL_law_480 : decode cL_law 480 = .ok (.iadd, 1) := by decide +kernel
theorem dL_law_481 : decode cL_law 481 = .ok (.iaload, 1) := by decide +kernel
theorem dL_law_482 : decode cL_law 482 = .ok (.aload_n 0, 1) := by decide +kernel
theorem dL_law_483 : decode cL_law 483 = .ok (.iload_n 3, 1) := by decide +kernel
theorem dL_law_484 : decode cL_law 484 = .ok (.iconst 3, 1) := by decide +kernel
theorem dL_law_485 : decode cL_law 485 = .ok (.iadd, 1) := by decide +kernel
theorem dL_law_486 : decode cL_law 486 = .ok (.iaload, 1) := by decide +kernel
theorem dL_law_487 : decode cL_law 487 = .ok (.invokevirtual 59, 3) := by decide +kernel
theorem dL_law_490 : decode cL_law 490 = .ok (.if_icmp .eq 627, 3) := by decide +kernel
theorem dL_law_493 : decode cL_law 493 = .ok (.iconst 0, 1) := by decide +kernel
theorem dL_law_494 : decode cL_law 494 = .ok (.ireturn, 1) := by decide +kernel
theorem dL_law_495 : decode cL_law 495 = .ok (.aload_n 1, 1) := by decide +kernel
theorem dL_law_496 : decode cL_law 496 = .ok (.invokevirtual 60, 3) := by decide +kernel
theorem dL_law_499 : decode cL_law 499 = .ok (.aload_n 2, 1) := by decide +kernel
theorem dL_law_500 : decode cL_law 500 = .ok (.invokevirtual 64, 3) := by decide +kernel
theorem dL_law_503 : decode cL_law 503 = .ok (.if_icmp .eq 614, 3) := by decide +kernel
theorem dL_law_506 : decode cL_law 506 = .ok (.iconst 0, 1) := by decide +kernel
theorem dL_law_507 : decode cL_law 507 = .ok (.ireturn, 1) := by decide +kernel
theorem dL_law_508 : decode cL_law 508 = .ok (.aload_n 1, 1) := by decide +kernel
theorem dL_law_509 : decode cL_law 509 = .ok (.aload_n 0, 1) := by decide +kernel
theorem dL_law_510 : decode cL_law 510 = .ok (.iload_n 3, 1) := by decide +kernel
theorem dL_law_511 : decode cL_law 511 = .ok (.iconst 1, 1) := by decide +kernel
theorem dL_law_512 : decode cL_law 512 = .ok (.iadd, 1) := by decide +kernel
theorem dL_law_513 : decode cL_law 513 = .ok (.iaload, 1) := by decide +kernel
theorem dL_law_514 : decode cL_law 514 = .ok (.aload_n 0, 1) := by decide +kernel
theorem dL_law_515 : decode cL_law 515 = .ok (.iload_n 3, 1) := by decide +kernel
theorem dL_law_516 : decode cL_law 516 = .ok (.iconst 2, 1) := by decide +kernel
theorem dL_law_517 : decode cL_law 517 = .ok (.iadd, 1) := by decide +kernel
theorem dL_law_518 : decode cL_law 518 = .ok (.iaload, 1) := by decide +kernel
theorem dL_law_519 : decode cL_law 519 = .ok (.aload_n 0, 1) := by decide +kernel
theorem dL_law_520 : decode cL_law 520 = .ok (.iload_n 3, 1) := by decide +kernel
theorem dL_law_521 : decode cL_law 521 = .ok (.iconst 3, 1) := by decide +kernel
theorem dL_law_522 : decode cL_law 522 = .ok (.iadd, 1) := by decide +kernel
theorem dL_law_523 : decode cL_law 523 = .ok (.iaload, 1) := by decide +kernel
theorem dL_law_524 : decode cL_law 524 = .ok (.aload_n 0, 1) := by decide +kernel
theorem dL_law_525 : decode cL_law 525 = .ok (.iload_n 3, 1) := by decide +kernel
theorem dL_law_526 : decode cL_law 526 = .ok (.iconst 4, 1) := by decide +kernel
theorem dL_law_527 : decode cL_law 527 = .ok (.iadd, 1) := by decide +kernel
theorem dL_law_528 : decode cL_law 528 = .ok (.iaload, 1) := by decide +kernel
theorem dL_law_529 : decode cL_law 529 = .ok (.invokevirtual 65, 3) := by decide +kernel
theorem dL_law_532 : decode cL_law 532 = .ok (.aload_n 2, 1) := by decide +kernel
theorem dL_law_533 : decode cL_law 533 = .ok (.aload_n 0, 1) := by decide +kernel
theorem dL_law_534 : decode cL_law 534 = .ok (.iload_n 3, 1) := by decide +kernel
theorem dL_law_535 : decode cL_law 535 = .ok (.iconst 1, 1) := by decide +kernel
theorem dL_law_536 : decode cL_law 536 = .ok (.iadd, 1) := by decide +kernel
theorem dL_law_537 : decode cL_law 537 = .ok (.iaload, 1) := by decide +kernel
theorem dL_law_538 : decode cL_law 538 = .ok (.aload_n 0, 1) := by decide +kernel
theorem dL_law_539 : decode cL_law 539 = .ok (.iload_n 3, 1) := by decide +kernel
theorem dL_law_540 : decode cL_law 540 = .ok (.iconst 2, 1) := by decide +kernel
theorem dL_law_541 : decode cL_law 541 = .ok (.iadd, 1) := by decide +kernel
theorem dL_law_542 : decode cL_law 542 = .ok (.iaload, 1) := by decide +kernel
theorem dL_law_543 : decode cL_law 543 = .ok (.aload_n 0, 1) := by decide +kernel
theorem dL_law_544 : decode cL_law 544 = .ok (.iload_n 3, 1) := by decide +kernel
theorem dL_law_545 : decode cL_law 545 = .ok (.iconst 3, 1) := by decide +kernel
theorem dL_law_546 : decode cL_law 546 = .ok (.iadd, 1) := by decide +kernel
theorem dL_law_547 : decode cL_law 547 = .ok (.iaload, 1) := by decide +kernel
theorem dL_law_548 : decode cL_law 548 = .ok (.aload_n 0, 1) := by decide +kernel
theorem dL_law_549 : decode cL_law 549 = .ok (.iload_n 3, 1) := by decide +kernel
theorem dL_law_550 : decode cL_law 550 = .ok (.iconst 4, 1) := by decide +kernel
theorem dL_law_551 : decode cL_law 551 = .ok (.iadd, 1) := by decide +kernel
theorem dL_law_552 : decode cL_law 552 = .ok (.iaload, 1) := by decide +kernel
theorem dL_law_553 : decode cL_law 553 = .ok (.invokevirtual 69, 3) := by decide +kernel
theorem dL_law_556 : decode cL_law 556 = .ok (.if_icmp .eq 561, 3) := by decide +kernel
theorem dL_law_559 : decode cL_law 559 = .ok (.iconst 0, 1) := by decide +kernel
theorem dL_law_560 : decode cL_law 560 = .ok (.ireturn, 1) := by decide +kernel
theorem dL_law_561 : decode cL_law 561 = .ok (.aload_n 1, 1) := by decide +kernel
theorem dL_law_562 : decode cL_law 562 = .ok (.aload_n 0, 1) := by decide +kernel
theorem dL_law_563 : decode cL_law 563 = .ok (.iload_n 3, 1) := by decide +kernel
theorem dL_law_564 : decode cL_law 564 = .ok (.iconst 1, 1) := by decide +kernel
theorem dL_law_565 : decode cL_law 565 = .ok (.iadd, 1) := by decide +kernel
theorem dL_law_566 : decode cL_law 566 = .ok (.iaload, 1) := by decide +kernel
theorem dL_law_567 : decode cL_law 567 = .ok (.aload_n 0, 1) := by decide +kernel
theorem dL_law_568 : decode cL_law 568 = .ok (.iload_n 3, 1) := by decide +kernel
theorem dL_law_569 : decode cL_law 569 = .ok (.iconst 2, 1) := by decide +kernel
theorem dL_law_570 : decode cL_law 570 = .ok (.iadd, 1) := by decide +kernel
theorem dL_law_571 : decode cL_law 571 = .ok (.iaload, 1) := by decide +kernel
theorem dL_law_572 : decode cL_law 572 = .ok (.aload_n 0, 1) := by decide +kernel
theorem dL_law_573 : decode cL_law 573 = .ok (.iload_n 3, 1) := by decide +kernel
theorem dL_law_574 : decode cL_law 574 = .ok (.iconst 3, 1) := by decide +kernel
theorem dL_law_575 : decode cL_law 575 = .ok (.iadd, 1) := by decide +kernel
theorem dL_law_576 : decode cL_law 576 = .ok (.iaload, 1) := by decide +kernel
theorem dL_law_577 : decode cL_law 577 = .ok (.invokevirtual 70, 3) := by decide +kernel
theorem dL_law_580 : decode cL_law 580 = .ok (.aload_n 2, 1) := by decide +kernel
theorem dL_law_581 : decode cL_law 581 = .ok (.aload_n 0, 1) := by decide +kernel
theorem dL_law_582 : decode cL_law 582 = .ok (.iload_n 3, 1) := by decide +kernel
theorem dL_law_583 : decode cL_law 583 = .ok (.iconst 1, 1) := by decide +kernel
theorem dL_law_584 : decode cL_law 584 = .ok (.iadd, 1) := by decide +kernel
theorem dL_law_585 : decode cL_law 585 = .ok (.iaload, 1) := by decide +kernel
theorem dL_law_586 : decode cL_law 586 = .ok (.aload_n 0, 1) := by decide +kernel
theorem dL_law_587 : decode cL_law 587 = .ok (.iload_n 3, 1) := by decide +kernel
theorem dL_law_588 : decode cL_law 588 = .ok (.iconst 2, 1) := by decide +kernel
theorem dL_law_589 : decode cL_law 589 = .ok (.iadd, 1) := by decide +kernel
theorem dL_law_590 : decode cL_law 590 = .ok (.iaload, 1) := by decide +kernel
theorem dL_law_591 : decode cL_law 591 = .ok (.aload_n 0, 1) := by decide +kernel
theorem dL_law_592 : decode cL_law 592 = .ok (.iload_n 3, 1) := by decide +kernel
theorem dL_law_593 : decode cL_law 593 = .ok (.iconst 3, 1) := by decide +kernel
theorem dL_law_594 : decode cL_law 594 = .ok (.iadd, 1) := by decide +kernel
theorem dL_law_595 : decode cL_law 595 = .ok (.iaload, 1) := by decide +kernel
theorem dL_law_596 : decode cL_law 596 = .ok (.invokevirtual 73, 3) := by decide +kernel
theorem dL_law_599 : decode cL_law 599 = .ok (.if_icmp .eq 518, 3) := by decide +kernel
theorem dL_law_602 : decode cL_law 602 = .ok (.iconst 0, 1) := by decide +kernel
theorem dL_law_603 : decode cL_law 603 = .ok (.ireturn, 1) := by decide +kernel
theorem dL_law_604 : decode cL_law 604 = .ok (.aload_n 1, 1) := by decide +kernel
theorem dL_law_605 : decode cL_law 605 = .ok (.aload_n 0, 1) := by decide +kernel
theorem dL_law_606 : decode cL_law 606 = .ok (.iload_n 3, 1) := by decide +kernel
theorem dL_law_607 : decode cL_law 607 = .ok (.iconst 1, 1) := by decide +kernel
theorem dL_law_608 : decode cL_law 608 = .ok (.iadd, 1) := by decide +kernel
theorem dL_law_609 : decode cL_law 609 = .ok (.iaload, 1) := by decide +kernel
theorem dL_law_610 : decode cL_law 610 = .ok (.aload_n 0, 1) := by decide +kernel
theorem dL_law_611 : decode cL_law 611 = .ok (.iload_n 3, 1) := by decide +kernel
theorem dL_law_612 : decode cL_law 612 = .ok (.iconst 2, 1) := by decide +kernel
theorem dL_law_613 : decode cL_law 613 = .ok (.iadd, 1) := by decide +kernel
theorem dL_law_614 : decode cL_law 614 = .ok (.iaload, 1) := by decide +kernel
theorem dL_law_615 : decode cL_law 615 = .ok (.invokevirtual 74, 3) := by decide +kernel
theorem dL_law_618 : decode cL_law 618 = .ok (.aload_n 2, 1) := by decide +kernel
theorem dL_law_619 : decode cL_law 619 = .ok (.aload_n 0, 1) := by decide +kernel
theorem dL_law_620 : decode cL_law 620 = .ok (.iload_n 3, 1) := by decide +kernel
theorem dL_law_621 : decode cL_law 621 = .ok (.iconst 1, 1) := by decide +kernel
theorem dL_law_622 : decode cL_law 622 = .ok (.iadd, 1) := by decide +kernel
theorem dL_law_623 : decode cL_law 623 = .ok (.iaload, 1) := by decide +kernel
theorem dL_law_624 : decode cL_law 624 = .ok (.aload_n 0, 1) := by decide +kernel
theorem dL_law_625 : decode cL_law 625 = .ok (.iload_n 3, 1) := by decide +kernel
theorem dL_law_626 : decode cL_law 626 = .ok (.iconst 2, 1) := by decide +kernel
theorem dL_law_627 : decode cL_law 627 = .ok (.iadd, 1) := by decide +kernel
theorem dL_law_628 : decode cL_law 628 = .ok (.iaload, 1) := by decide +kernel
theorem dL_law_629 : decode cL_law 629 = .ok (.invokevirtual 77, 3) := by decide +kernel
theorem dL_law_632 : decode cL_law 632 = .ok (.if_icmp .eq 485, 3) := by decide +kernel
theorem dL_law_635 : decode cL_law 635 = .ok (.iconst 0, 1) := by decide +kernel
theorem dL_law_636 : decode cL_law 636 = .ok (.ireturn, 1) := by decide +kernel
theorem dL_law_637 : decode cL_law 637 = .ok (.aload_n 1, 1) := by decide +kernel
theorem dL_law_638 : decode cL_law 638 = .ok (.aload_n 0, 1) := by decide +kernel
theorem dL_law_639 : decode cL_law 639 = .ok (.iload_n 3, 1) := by decide +kernel
theorem dL_law_640 : decode cL_law 640 = .ok (.iconst 1, 1) := by decide +kernel
theorem dL_law_641 : decode cL_law 641 = .ok (.iadd, 1) := by decide +kernel
theorem dL_law_642 : decode cL_law 642 = .ok (.iaload, 1) := by decide +kernel
theorem dL_law_643 : decode cL_law 643 = .ok (.aload_n 0, 1) := by decide +kernel
theorem dL_law_644 : decode cL_law 644 = .ok (.iload_n 3, 1) := by decide +kernel
theorem dL_law_645 : decode cL_law 645 = .ok (.iconst 2, 1) := by decide +kernel
theorem dL_law_646 : decode cL_law 646 = .ok (.iadd, 1) := by decide +kernel
theorem dL_law_647 : decode cL_law 647 = .ok (.iaload, 1) := by decide +kernel
theorem dL_law_648 : decode cL_law 648 = .ok (.invokevirtual 78, 3) := by decide +kernel
theorem dL_law_651 : decode cL_law 651 = .ok (.aload_n 2, 1) := by decide +kernel
theorem dL_law_652 : decode cL_law 652 = .ok (.aload_n 0, 1) := by decide +kernel
theorem dL_law_653 : decode cL_law 653 = .ok (.iload_n 3, 1) := by decide +kernel
theorem dL_law_654 : decode cL_law 654 = .ok (.iconst 1, 1) := by decide +kernel
theorem dL_law_655 : decode cL_law 655 = .ok (.iadd, 1) := by decide +kernel
theorem dL_law_656 : decode cL_law 656 = .ok (.iaload, 1) := by decide +kernel
theorem dL_law_657 : decode cL_law 657 = .ok (.aload_n 0, 1) := by decide +kernel
theorem dL_law_658 : decode cL_law 658 = .ok (.iload_n 3, 1) := by decide +kernel
theorem dL_law_659 : decode cL_law 659 = .ok (.iconst 2, 1) := by decide +kernel
theorem dL_law_660 : decode cL_law 660 = .ok (.iadd, 1) := by decide +kernel
theorem dL_law_661 : decode cL_law 661 = .ok (.iaload, 1) := by decide +kernel
theorem dL_law_662 : decode cL_law 662 = .ok (.invokevirtual 81, 3) := by decide +kernel
theorem dL_law_665 : decode cL_law 665 = .ok (.if_icmp .eq 452, 3) := by decide +kernel
theorem dL_law_668 : decode cL_law 668 = .ok (.iconst 0, 1) := by decide +kernel
theorem dL_law_669 : decode cL_law 669 = .ok (.ireturn, 1) := by decide +kernel
theorem dL_law_670 : decode cL_law 670 = .ok (.aload_n 1, 1) := by decide +kernel
theorem dL_law_671 : decode cL_law 671 = .ok (.aload_n 0, 1) := by decide +kernel
theorem dL_law_672 : decode cL_law 672 = .ok (.iload_n 3, 1) := by decide +kernel
theorem dL_law_673 : decode cL_law 673 = .ok (.iconst 1, 1) := by decide +kernel
theorem dL_law_674 : decode cL_law 674 = .ok (.iadd, 1) := by decide +kernel
theorem dL_law_675 : decode cL_law 675 = .ok (.iaload, 1) := by decide +kernel
theorem dL_law_676 : decode cL_law 676 = .ok (.aload_n 0, 1) := by decide +kernel
theorem dL_law_677 : decode cL_law 677 = .ok (.iload_n 3, 1) := by decide +kernel
theorem dL_law_678 : decode cL_law 678 = .ok (.iconst 2, 1) := by decide +kernel
theorem dL_law_679 : decode cL_law 679 = .ok (.iadd, 1) := by decide +kernel
theorem dL_law_680 : decode cL_law 680 = .ok (.iaload, 1) := by decide +kernel
theorem dL_law_681 : decode cL_law 681 = .ok (.invokevirtual 82, 3) := by decide +kernel
theorem dL_law_684 : decode cL_law 684 = .ok (.aload_n 2, 1) := by decide +kernel
theorem dL_law_685 : decode cL_law 685 = .ok (.aload_n 0, 1) := by decide +kernel
theorem dL_law_686 : decode cL_law 686 = .ok (.iload_n 3, 1) := by decide +kernel
theorem dL_law_687 : decode cL_law 687 = .ok (.iconst 1, 1) := by decide +kernel
theorem dL_law_688 : decode cL_law 688 = .ok (.iadd, 1) := by decide +kernel
theorem dL_law_689 : decode cL_law 689 = .ok (.iaload, 1) := by decide +kernel
theorem dL_law_690 : decode cL_law 690 = .ok (.aload_n 0, 1) := by decide +kernel
theorem dL_law_691 : decode cL_law 691 = .ok (.iload_n 3, 1) := by decide +kernel
theorem dL_law_692 : decode cL_law 692 = .ok (.iconst 2, 1) := by decide +kernel
theorem dL_law_693 : decode cL_law 693 = .ok (.iadd, 1) := by decide +kernel
theorem dL_law_694 : decode cL_law 694 = .ok (.iaload, 1) := by decide +kernel
theorem dL_law_695 : decode cL_law 695 = .ok (.invokevirtual 85, 3) := by decide +kernel
theorem dL_law_698 : decode cL_law 698 = .ok (.if_icmp .eq 419, 3) := by decide +kernel
theorem dL_law_701 : decode cL_law 701 = .ok (.iconst 0, 1) := by decide +kernel
theorem dL_law_702 : decode cL_law 702 = .ok (.ireturn, 1) := by decide +kernel
theorem dL_law_703 : decode cL_law 703 = .ok (.aload_n 1, 1) := by decide +kernel
theorem dL_law_704 : decode cL_law 704 = .ok (.aload_n 0, 1) := by decide +kernel
theorem dL_law_705 : decode cL_law 705 = .ok (.iload_n 3, 1) := by decide +kernel
theorem dL_law_706 : decode cL_law 706 = .ok (.iconst 1, 1) := by decide +kernel
theorem dL_law_707 : decode cL_law 707 = .ok (.iadd, 1) := by decide +kernel
theorem dL_law_708 : decode cL_law 708 = .ok (.iaload, 1) := by decide +kernel
theorem dL_law_709 : decode cL_law 709 = .ok (.aload_n 0, 1) := by decide +kernel
theorem dL_law_710 : decode cL_law 710 = .ok (.iload_n 3, 1) := by decide +kernel
theorem dL_law_711 : decode cL_law 711 = .ok (.iconst 2, 1) := by decide +kernel
theorem dL_law_712 : decode cL_law 712 = .ok (.iadd, 1) := by decide +kernel
theorem dL_law_713 : decode cL_law 713 = .ok (.iaload, 1) := by decide +kernel
theorem dL_law_714 : decode cL_law 714 = .ok (.invokevirtual 86, 3) := by decide +kernel
theorem dL_law_717 : decode cL_law 717 = .ok (.aload_n 2, 1) := by decide +kernel
theorem dL_law_718 : decode cL_law 718 = .ok (.aload_n 0, 1) := by decide +kernel
theorem dL_law_719 : decode cL_law 719 = .ok (.iload_n 3, 1) := by decide +kernel
theorem dL_law_720 : decode cL_law 720 = .ok (.iconst 1, 1) := by decide +kernel
theorem dL_law_721 : decode cL_law 721 = .ok (.iadd, 1) := by decide +kernel
theorem dL_law_722 : decode cL_law 722 = .ok (.iaload, 1) := by decide +kernel
theorem dL_law_723 : decode cL_law 723 = .ok (.aload_n 0, 1) := by decide +kernel
theorem dL_law_724 : decode cL_law 724 = .ok (.iload_n 3, 1) := by decide +kernel
theorem dL_law_725 : decode cL_law 725 = .ok (.iconst 2, 1) := by decide +kernel
theorem dL_law_726 : decode cL_law 726 = .ok (.iadd, 1) := by decide +kernel
theorem dL_law_727 : decode cL_law 727 = .ok (.iaload, 1) := by decide +kernel
theorem dL_law_728 : decode cL_law 728 = .ok (.invokevirtual 89, 3) := by decide +kernel
theorem dL_law_731 : decode cL_law 731 = .ok (.if_icmp .eq 386, 3) := by decide +kernel
theorem dL_law_734 : decode cL_law 734 = .ok (.iconst 0, 1) := by decide +kernel
theorem dL_law_735 : decode cL_law 735 = .ok (.ireturn, 1) := by decide +kernel
theorem dL_law_736 : decode cL_law 736 = .ok (.aload_n 1, 1) := by decide +kernel
theorem dL_law_737 : decode cL_law 737 = .ok (.aload_n 0, 1) := by decide +kernel
theorem dL_law_738 : decode cL_law 738 = .ok (.iload_n 3, 1) := by decide +kernel
theorem dL_law_739 : decode cL_law 739 = .ok (.iconst 1, 1) := by decide +kernel
theorem dL_law_740 : decode cL_law 740 = .ok (.iadd, 1) := by decide +kernel
theorem dL_law_741 : decode cL_law 741 = .ok (.iaload, 1) := by decide +kernel
theorem dL_law_742 : decode cL_law 742 = .ok (.aload_n 0, 1) := by decide +kernel
theorem dL_law_743 : decode cL_law 743 = .ok (.iload_n 3, 1) := by decide +kernel
theorem dL_law_744 : decode cL_law 744 = .ok (.iconst 2, 1) := by decide +kernel
theorem dL_law_745 : decode cL_law 745 = .ok (.iadd, 1) := by decide +kernel
theorem dL_law_746 : decode cL_law 746 = .ok (.iaload, 1) := by decide +kernel
theorem dL_law_747 : decode cL_law 747 = .ok (.invokevirtual 90, 3) := by decide +kernel
theorem dL_law_750 : decode cL_law 750 = .ok (.aload_n 2, 1) := by decide +kernel
theorem dL_law_751 : decode cL_law 751 = .ok (.aload_n 0, 1) := by decide +kernel
theorem dL_law_752 : decode cL_law 752 = .ok (.iload_n 3, 1) := by decide +kernel
theorem dL_law_753 : decode cL_law 753 = .ok (.iconst 1, 1) := by decide +kernel
theorem dL_law_754 : decode cL_law 754 = .ok (.iadd, 1) := by decide +kernel
theorem dL_law_755 : decode cL_law 755 = .ok (.iaload, 1) := by decide +kernel
theorem dL_law_756 : decode cL_law 756 = .ok (.aload_n 0, 1) := by decide +kernel
theorem dL_law_757 : decode cL_law 757 = .ok (.iload_n 3, 1) := by decide +kernel
theorem dL_law_758 : decode cL_law 758 = .ok (.iconst 2, 1) := by decide +kernel
theorem dL_law_759 : decode cL_law 759 = .ok (.iadd, 1) := by decide +kernel
theorem dL_law_760 : decode cL_law 760 = .ok (.iaload, 1) := by decide +kernel
theorem dL_law_761 : decode cL_law 761 = .ok (.invokevirtual 93, 3) := by decide +kernel
theorem dL_law_764 : decode cL_law 764 = .ok (.if_icmp .eq 353, 3) := by decide +kernel
theorem dL_law_767 : decode cL_law 767 = .ok (.iconst 0, 1) := by decide +kernel
theorem dL_law_768 : decode cL_law 768 = .ok (.ireturn, 1) := by decide +kernel
theorem dL_law_769 : decode cL_law 769 = .ok (.aload_n 1, 1) := by decide +kernel
theorem dL_law_770 : decode cL_law 770 = .ok (.aload_n 0, 1) := by decide +kernel
theorem dL_law_771 : decode cL_law 771 = .ok (.iload_n 3, 1) := by decide +kernel
theorem dL_law_772 : decode cL_law 772 = .ok (.iconst 1, 1) := by decide +kernel
theorem dL_law_773 : decode cL_law 773 = .ok (.iadd, 1) := by decide +kernel
theorem dL_law_774 : decode cL_law 774 = .ok (.iaload, 1) := by decide +kernel
theorem dL_law_775 : decode cL_law 775 = .ok (.invokevirtual 94, 3) := by decide +kernel
theorem dL_law_778 : decode cL_law 778 = .ok (.aload_n 2, 1) := by decide +kernel
theorem dL_law_779 : decode cL_law 779 = .ok (.aload_n 0, 1) := by decide +kernel
theorem dL_law_780 : decode cL_law 780 = .ok (.iload_n 3, 1) := by decide +kernel
theorem dL_law_781 : decode cL_law 781 = .ok (.iconst 1, 1) := by decide +kernel
theorem dL_law_782 : decode cL_law 782 = .ok (.iadd, 1) := by decide +kernel
theorem dL_law_783 : decode cL_law 783 = .ok (.iaload, 1) := by decide +kernel
theorem dL_law_784 : decode cL_law 784 = .ok (.invokevirtual 97, 3) := by decide +kernel
theorem dL_law_787 : decode cL_law 787 = .ok (.if_icmp .eq 330, 3) := by decide +kernel
theorem dL_law_790 : decode cL_law 790 = .ok (.iconst 0, 1) := by decide +kernel
theorem dL_law_791 : decode cL_law 791 = .ok (.ireturn, 1) := by decide +kernel
theorem dL_law_792 : decode cL_law 792 = .ok (.aload_n 1, 1) := by decide +kernel
theorem dL_law_793 : decode cL_law 793 = .ok (.aload_n 0, 1) := by decide +kernel
theorem dL_law_794 : decode cL_law 794 = .ok (.iload_n 3, 1) := by decide +kernel
theorem dL_law_795 : decode cL_law 795 = .ok (.iconst 1, 1) := by decide +kernel
theorem dL_law_796 : decode cL_law 796 = .ok (.iadd, 1) := by decide +kernel
theorem dL_law_797 : decode cL_law 797 = .ok (.iaload, 1) := by decide +kernel
theorem dL_law_798 : decode cL_law 798 = .ok (.aload_n 0, 1) := by decide +kernel
theorem dL_law_799 : decode cL_law 799 = .ok (.iload_n 3, 1) := by decide +kernel
theorem dL_law_800 : decode cL_law 800 = .ok (.iconst 2, 1) := by decide +kernel
theorem dL_law_801 : decode cL_law 801 = .ok (.iadd, 1) := by decide +kernel
theorem dL_law_802 : decode cL_law 802 = .ok (.iaload, 1) := by decide +kernel
theorem dL_law_803 : decode cL_law 803 = .ok (.invokevirtual 98, 3) := by decide +kernel
theorem dL_law_806 : decode cL_law 806 = .ok (.aload_n 2, 1) := by decide +kernel
theorem dL_law_807 : decode cL_law 807 = .ok (.aload_n 0, 1) := by decide +kernel
theorem dL_law_808 : decode cL_law 808 = .ok (.iload_n 3, 1) := by decide +kernel
theorem dL_law_809 : decode cL_law 809 = .ok (.iconst 1, 1) := by decide +kernel
theorem dL_law_810 : decode cL_law 810 = .ok (.iadd, 1) := by decide +kernel
theorem dL_law_811 : decode cL_law 811 = .ok (.iaload, 1) := by decide +kernel
theorem dL_law_812 : decode cL_law 812 = .ok (.aload_n 0, 1) := by decide +kernel
theorem dL_law_813 : decode cL_law 813 = .ok (.iload_n 3, 1) := by decide +kernel
theorem dL_law_814 : decode cL_law 814 = .ok (.iconst 2, 1) := by decide +kernel
theorem dL_law_815 : decode cL_law 815 = .ok (.iadd, 1) := by decide +kernel
theorem dL_law_816 : decode cL_law 816 = .ok (.iaload, 1) := by decide +kernel
theorem dL_law_817 : decode cL_law 817 = .ok (.invokevirtual 101, 3) := by decide +kernel
theorem dL_law_820 : decode cL_law 820 = .ok (.if_icmp .eq 297, 3) := by decide +kernel
theorem dL_law_823 : decode cL_law 823 = .ok (.iconst 0, 1) := by decide +kernel
theorem dL_law_824 : decode cL_law 824 = .ok (.ireturn, 1) := by decide +kernel
theorem dL_law_825 : decode cL_law 825 = .ok (.aload_n 1, 1) := by decide +kernel
theorem dL_law_826 : decode cL_law 826 = .ok (.aload_n 0, 1) := by decide +kernel
theorem dL_law_827 : decode cL_law 827 = .ok (.iload_n 3, 1) := by decide +kernel
theorem dL_law_828 : decode cL_law 828 = .ok (.iconst 1, 1) := by decide +kernel
theorem dL_law_829 : decode cL_law 829 = .ok (.iadd, 1) := by decide +kernel
theorem dL_law_830 : decode cL_law 830 = .ok (.iaload, 1) := by decide +kernel
theorem dL_law_831 : decode cL_law 831 = .ok (.aload_n 0, 1) := by decide +kernel
theorem dL_law_832 : decode cL_law 832 = .ok (.iload_n 3, 1) := by decide +kernel
theorem dL_law_833 : decode cL_law 833 = .ok (.iconst 2, 1) := by decide +kernel
theorem dL_law_834 : decode cL_law 834 = .ok (.iadd, 1) := by decide +kernel
theorem dL_law_835 : decode cL_law 835 = .ok (.iaload, 1) := by decide +kernel
theorem dL_law_836 : decode cL_law 836 = .ok (.aload_n 0, 1) := by decide +kernel
theorem dL_law_837 : decode cL_law 837 = .ok (.iload_n 3, 1) := by decide +kernel
theorem dL_law_838 : decode cL_law 838 = .ok (.iconst 3, 1) := by decide +kernel
theorem dL_law_839 : decode cL_law 839 = .ok (.iadd, 1) := by decide +kernel
theorem dL_law_840 : decode cL_law 840 = .ok (.iaload, 1) := by decide +kernel
theorem dL_law_841 : decode cL_law 841 = .ok (.invokevirtual 102, 3) := by decide +kernel
theorem dL_law_844 : decode cL_law 844 = .ok (.aload_n 2, 1) := by decide +kernel
theorem dL_law_845 : decode cL_law 845 = .ok (.aload_n 0, 1) := by decide +kernel
theorem dL_law_846 : decode cL_law 846 = .ok (.iload_n 3, 1) := by decide +kernel
theorem dL_law_847 : decode cL_law 847 = .ok (.iconst 1, 1) := by decide +kernel
theorem dL_law_848 : decode cL_law 848 = .ok (.iadd, 1) := by decide +kernel
theorem dL_law_849 : decode cL_law 849 = .ok (.iaload, 1) := by decide +kernel
theorem dL_law_850 : decode cL_law 850 = .ok (.aload_n 0, 1) := by decide +kernel
theorem dL_law_851 : decode cL_law 851 = .ok (.iload_n 3, 1) := by decide +kernel
theorem dL_law_852 : decode cL_law 852 = .ok (.iconst 2, 1) := by decide +kernel
theorem dL_law_853 : decode cL_law 853 = .ok (.iadd, 1) := by decide +kernel
theorem dL_law_854 : decode cL_law 854 = .ok (.iaload, 1) := by decide +kernel
theorem dL_law_855 : decode cL_law 855 = .ok (.aload_n 0, 1) := by decide +kernel
theorem dL_law_856 : decode cL_law 856 = .ok (.iload_n 3, 1) := by decide +kernel
theorem dL_law_857 : decode cL_law 857 = .ok (.iconst 3, 1) := by decide +kernel
theorem dL_law_858 : decode cL_law 858 = .ok (.iadd, 1) := by decide +kernel
theorem dL_law_859 : decode cL_law 859 = .ok (.iaload, 1) := by decide +kernel
theorem dL_law_860 : decode cL_law 860 = .ok (.invokevirtual 105, 3) := by decide +kernel
theorem dL_law_863 : decode cL_law 863 = .ok (.if_icmp .eq 254, 3) := by decide +kernel
theorem dL_law_866 : decode cL_law 866 = .ok (.iconst 0, 1) := by decide +kernel
theorem dL_law_867 : decode cL_law 867 = .ok (.ireturn, 1) := by decide +kernel
theorem dL_law_868 : decode cL_law 868 = .ok (.aload_n 1, 1) := by decide +kernel
theorem dL_law_869 : decode cL_law 869 = .ok (.aload_n 0, 1) := by decide +kernel
theorem dL_law_870 : decode cL_law 870 = .ok (.iload_n 3, 1) := by decide +kernel
theorem dL_law_871 : decode cL_law 871 = .ok (.iconst 1, 1) := by decide +kernel
theorem dL_law_872 : decode cL_law 872 = .ok (.iadd, 1) := by decide +kernel
theorem dL_law_873 : decode cL_law 873 = .ok (.iaload, 1) := by decide +kernel
theorem dL_law_874 : decode cL_law 874 = .ok (.aload_n 0, 1) := by decide +kernel
theorem dL_law_875 : decode cL_law 875 = .ok (.iload_n 3, 1) := by decide +kernel
theorem dL_law_876 : decode cL_law 876 = .ok (.iconst 2, 1) := by decide +kernel
theorem dL_law_877 : decode cL_law 877 = .ok (.iadd, 1) := by decide +kernel
theorem dL_law_878 : decode cL_law 878 = .ok (.iaload, 1) := by decide +kernel
theorem dL_law_879 : decode cL_law 879 = .ok (.invokevirtual 106, 3) := by decide +kernel
theorem dL_law_882 : decode cL_law 882 = .ok (.aload_n 2, 1) := by decide +kernel
theorem dL_law_883 : decode cL_law 883 = .ok (.aload_n 0, 1) := by decide +kernel
theorem dL_law_884 : decode cL_law 884 = .ok (.iload_n 3, 1) := by decide +kernel
theorem dL_law_885 : decode cL_law 885 = .ok (.iconst 1, 1) := by decide +kernel
theorem dL_law_886 : decode cL_law 886 = .ok (.iadd, 1) := by decide +kernel
theorem dL_law_887 : decode cL_law 887 = .ok (.iaload, 1) := by decide +kernel
theorem dL_law_888 : decode cL_law 888 = .ok (.aload_n 0, 1) := by decide +kernel
theorem dL_law_889 : decode cL_law 889 = .ok (.iload_n 3, 1) := by decide +kernel
theorem dL_law_890 : decode cL_law 890 = .ok (.iconst 2, 1) := by decide +kernel
theorem dL_law_891 : decode cL_law 891 = .ok (.iadd, 1) := by decide +kernel
theorem dL_law_892 : decode cL_law 892 = .ok (.iaload, 1) := by decide +kernel
theorem dL_law_893 : decode cL_law 893 = .ok (.invokevirtual 109, 3) := by decide +kernel
theorem dL_law_896 : decode cL_law 896 = .ok (.if_icmp .eq 221, 3) := by decide +kernel
theorem dL_law_899 : decode cL_law 899 = .ok (.iconst 0, 1) := by decide +kernel
theorem dL_law_900 : decode cL_law 900 = .ok (.ireturn, 1) := by decide +kernel
theorem dL_law_901 : decode cL_law 901 = .ok (.aload_n 1, 1) := by decide +kernel
theorem dL_law_902 : decode cL_law 902 = .ok (.aload_n 0, 1) := by decide +kernel
theorem dL_law_903 : decode cL_law 903 = .ok (.iload_n 3, 1) := by decide +kernel
theorem dL_law_904 : decode cL_law 904 = .ok (.iconst 1, 1) := by decide +kernel
theorem dL_law_905 : decode cL_law 905 = .ok (.iadd, 1) := by decide +kernel
theorem dL_law_906 : decode cL_law 906 = .ok (.iaload, 1) := by decide +kernel
theorem dL_law_907 : decode cL_law 907 = .ok (.invokevirtual 110, 3) := by decide +kernel
theorem dL_law_910 : decode cL_law 910 = .ok (.aload_n 2, 1) := by decide +kernel
theorem dL_law_911 : decode cL_law 911 = .ok (.aload_n 0, 1) := by decide +kernel
theorem dL_law_912 : decode cL_law 912 = .ok (.iload_n 3, 1) := by decide +kernel
theorem dL_law_913 : decode cL_law 913 = .ok (.iconst 1, 1) := by decide +kernel
theorem dL_law_914 : decode cL_law 914 = .ok (.iadd, 1) := by decide +kernel
theorem dL_law_915 : decode cL_law 915 = .ok (.iaload, 1) := by decide +kernel
theorem dL_law_916 : decode cL_law 916 = .ok (.invokevirtual 114, 3) := by decide +kernel
theorem dL_law_919 : decode cL_law 919 = .ok (.lcmp, 1) := by decide +kernel
theorem dL_law_920 : decode cL_law 920 = .ok (.ifCond .eq 197, 3) := by decide +kernel
theorem dL_law_923 : decode cL_law 923 = .ok (.iconst 0, 1) := by decide +kernel
theorem dL_law_924 : decode cL_law 924 = .ok (.ireturn, 1) := by decide +kernel
theorem dL_law_925 : decode cL_law 925 = .ok (.aload_n 1, 1) := by decide +kernel
theorem dL_law_926 : decode cL_law 926 = .ok (.invokevirtual 115, 3) := by decide +kernel
theorem dL_law_929 : decode cL_law 929 = .ok (.aload_n 2, 1) := by decide +kernel
theorem dL_law_930 : decode cL_law 930 = .ok (.invokevirtual 118, 3) := by decide +kernel
theorem dL_law_933 : decode cL_law 933 = .ok (.if_icmp .eq 184, 3) := by decide +kernel
theorem dL_law_936 : decode cL_law 936 = .ok (.iconst 0, 1) := by decide +kernel
theorem dL_law_937 : decode cL_law 937 = .ok (.ireturn, 1) := by decide +kernel
theorem dL_law_938 : decode cL_law 938 = .ok (.aload_n 1, 1) := by decide +kernel
theorem dL_law_939 : decode cL_law 939 = .ok (.invokevirtual 119, 3) := by decide +kernel
theorem dL_law_942 : decode cL_law 942 = .ok (.aload_n 2, 1) := by decide +kernel
theorem dL_law_943 : decode cL_law 943 = .ok (.invokevirtual 122, 3) := by decide +kernel
theorem dL_law_946 : decode cL_law 946 = .ok (.if_icmp .eq 171, 3) := by decide +kernel
theorem dL_law_949 : decode cL_law 949 = .ok (.iconst 0, 1) := by decide +kernel
theorem dL_law_950 : decode cL_law 950 = .ok (.ireturn, 1) := by decide +kernel
theorem dL_law_951 : decode cL_law 951 = .ok (.aload_n 1, 1) := by decide +kernel
theorem dL_law_952 : decode cL_law 952 = .ok (.aload_n 0, 1) := by decide +kernel
theorem dL_law_953 : decode cL_law 953 = .ok (.iload_n 3, 1) := by decide +kernel
theorem dL_law_954 : decode cL_law 954 = .ok (.iconst 1, 1) := by decide +kernel
theorem dL_law_955 : decode cL_law 955 = .ok (.iadd, 1) := by decide +kernel
theorem dL_law_956 : decode cL_law 956 = .ok (.iaload, 1) := by decide +kernel
theorem dL_law_957 : decode cL_law 957 = .ok (.aload_n 0, 1) := by decide +kernel
theorem dL_law_958 : decode cL_law 958 = .ok (.iload_n 3, 1) := by decide +kernel
theorem dL_law_959 : decode cL_law 959 = .ok (.iconst 2, 1) := by decide +kernel
theorem dL_law_960 : decode cL_law 960 = .ok (.iadd, 1) := by decide +kernel
theorem dL_law_961 : decode cL_law 961 = .ok (.iaload, 1) := by decide +kernel
theorem dL_law_962 : decode cL_law 962 = .ok (.invokevirtual 123, 3) := by decide +kernel
theorem dL_law_965 : decode cL_law 965 = .ok (.aload_n 2, 1) := by decide +kernel
theorem dL_law_966 : decode cL_law 966 = .ok (.aload_n 0, 1) := by decide +kernel
theorem dL_law_967 : decode cL_law 967 = .ok (.iload_n 3, 1) := by decide +kernel
theorem dL_law_968 : decode cL_law 968 = .ok (.iconst 1, 1) := by decide +kernel
theorem dL_law_969 : decode cL_law 969 = .ok (.iadd, 1) := by decide +kernel
theorem dL_law_970 : decode cL_law 970 = .ok (.iaload, 1) := by decide +kernel
theorem dL_law_971 : decode cL_law 971 = .ok (.aload_n 0, 1) := by decide +kernel
theorem dL_law_972 : decode cL_law 972 = .ok (.iload_n 3, 1) := by decide +kernel
theorem dL_law_973 : decode cL_law 973 = .ok (.iconst 2, 1) := by decide +kernel
theorem dL_law_974 : decode cL_law 974 = .ok (.iadd, 1) := by decide +kernel
theorem dL_law_975 : decode cL_law 975 = .ok (.iaload, 1) := by decide +kernel
theorem dL_law_976 : decode cL_law 976 = .ok (.invokevirtual 126, 3) := by decide +kernel
theorem dL_law_979 : decode cL_law 979 = .ok (.if_icmp .eq 138, 3) := by decide +kernel
theorem dL_law_982 : decode cL_law 982 = .ok (.iconst 0, 1) := by decide +kernel
theorem dL_law_983 : decode cL_law 983 = .ok (.ireturn, 1) := by decide +kernel
theorem dL_law_984 : decode cL_law 984 = .ok (.aload_n 1, 1) := by decide +kernel
theorem dL_law_985 : decode cL_law 985 = .ok (.aload_n 0, 1) := by decide +kernel
theorem dL_law_986 : decode cL_law 986 = .ok (.iload_n 3, 1) := by decide +kernel
theorem dL_law_987 : decode cL_law 987 = .ok (.iconst 1, 1) := by decide +kernel
theorem dL_law_988 : decode cL_law 988 = .ok (.iadd, 1) := by decide +kernel
theorem dL_law_989 : decode cL_law 989 = .ok (.iaload, 1) := by decide +kernel
theorem dL_law_990 : decode cL_law 990 = .ok (.aload_n 0, 1) := by decide +kernel
theorem dL_law_991 : decode cL_law 991 = .ok (.iload_n 3, 1) := by decide +kernel
theorem dL_law_992 : decode cL_law 992 = .ok (.iconst 2, 1) := by decide +kernel
theorem dL_law_993 : decode cL_law 993 = .ok (.iadd, 1) := by decide +kernel
theorem dL_law_994 : decode cL_law 994 = .ok (.iaload, 1) := by decide +kernel
theorem dL_law_995 : decode cL_law 995 = .ok (.invokevirtual 127, 3) := by decide +kernel
theorem dL_law_998 : decode cL_law 998 = .ok (.aload_n 2, 1) := by decide +kernel
theorem dL_law_999 : decode cL_law 999 = .ok (.aload_n 0, 1) := by decide +kernel
theorem dL_law_1000 : decode cL_law 1000 = .ok (.iload_n 3, 1) := by decide +kernel
theorem dL_law_1001 : decode cL_law 1001 = .ok (.iconst 1, 1) := by decide +kernel
theorem dL_law_1002 : decode cL_law 1002 = .ok (.iadd, 1) := by decide +kernel
theorem dL_law_1003 : decode cL_law 1003 = .ok (.iaload, 1) := by decide +kernel
theorem dL_law_1004 : decode cL_law 1004 = .ok (.aload_n 0, 1) := by decide +kernel
theorem dL_law_1005 : decode cL_law 1005 = .ok (.iload_n 3, 1) := by decide +kernel
theorem dL_law_1006 : decode cL_law 1006 = .ok (.iconst 2, 1) := by decide +kernel
theorem dL_law_1007 : decode cL_law 1007 = .ok (.iadd, 1) := by decide +kernel
theorem dL_law_1008 : decode cL_law 1008 = .ok (.iaload, 1) := by decide +kernel
theorem dL_law_1009 : decode cL_law 1009 = .ok (.invokevirtual 131, 3) := by decide +kernel
theorem dL_law_1012 : decode cL_law 1012 = .ok (.lcmp, 1) := by decide +kernel
theorem dL_law_1013 : decode cL_law 1013 = .ok (.ifCond .eq 104, 3) := by decide +kernel
theorem dL_law_1016 : decode cL_law 1016 = .ok (.iconst 0, 1) := by decide +kernel
theorem dL_law_1017 : decode cL_law 1017 = .ok (.ireturn, 1) := by decide +kernel
theorem dL_law_1018 : decode cL_law 1018 = .ok (.aload_n 1, 1) := by decide +kernel
theorem dL_law_1019 : decode cL_law 1019 = .ok (.aload_n 0, 1) := by decide +kernel
theorem dL_law_1020 : decode cL_law 1020 = .ok (.iload_n 3, 1) := by decide +kernel
theorem dL_law_1021 : decode cL_law 1021 = .ok (.iconst 1, 1) := by decide +kernel
theorem dL_law_1022 : decode cL_law 1022 = .ok (.iadd, 1) := by decide +kernel
theorem dL_law_1023 : decode cL_law 1023 = .ok (.iaload, 1) := by decide +kernel
theorem dL_law_1024 : decode cL_law 1024 = .ok (.invokevirtual 132, 3) := by decide +kernel
theorem dL_law_1027 : decode cL_law 1027 = .ok (.aload_n 2, 1) := by decide +kernel
theorem dL_law_1028 : decode cL_law 1028 = .ok (.aload_n 0, 1) := by decide +kernel
theorem dL_law_1029 : decode cL_law 1029 = .ok (.iload_n 3, 1) := by decide +kernel
theorem dL_law_1030 : decode cL_law 1030 = .ok (.iconst 1, 1) := by decide +kernel
theorem dL_law_1031 : decode cL_law 1031 = .ok (.iadd, 1) := by decide +kernel
theorem dL_law_1032 : decode cL_law 1032 = .ok (.iaload, 1) := by decide +kernel
theorem dL_law_1033 : decode cL_law 1033 = .ok (.invokevirtual 135, 3) := by decide +kernel
theorem dL_law_1036 : decode cL_law 1036 = .ok (.if_icmp .eq 81, 3) := by decide +kernel
theorem dL_law_1039 : decode cL_law 1039 = .ok (.iconst 0, 1) := by decide +kernel
theorem dL_law_1040 : decode cL_law 1040 = .ok (.ireturn, 1) := by decide +kernel
theorem dL_law_1041 : decode cL_law 1041 = .ok (.aload_n 1, 1) := by decide +kernel
theorem dL_law_1042 : decode cL_law 1042 = .ok (.aload_n 0, 1) := by decide +kernel
theorem dL_law_1043 : decode cL_law 1043 = .ok (.iload_n 3, 1) := by decide +kernel
theorem dL_law_1044 : decode cL_law 1044 = .ok (.iconst 1, 1) := by decide +kernel
theorem dL_law_1045 : decode cL_law 1045 = .ok (.iadd, 1) := by decide +kernel
theorem dL_law_1046 : decode cL_law 1046 = .ok (.iaload, 1) := by decide +kernel
theorem dL_law_1047 : decode cL_law 1047 = .ok (.aload_n 0, 1) := by decide +kernel
theorem dL_law_1048 : decode cL_law 1048 = .ok (.iload_n 3, 1) := by decide +kernel
theorem dL_law_1049 : decode cL_law 1049 = .ok (.iconst 2, 1) := by decide +kernel
theorem dL_law_1050 : decode cL_law 1050 = .ok (.iadd, 1) := by decide +kernel
theorem dL_law_1051 : decode cL_law 1051 = .ok (.iaload, 1) := by decide +kernel
theorem dL_law_1052 : decode cL_law 1052 = .ok (.aload_n 0, 1) := by decide +kernel
theorem dL_law_1053 : decode cL_law 1053 = .ok (.iload_n 3, 1) := by decide +kernel
theorem dL_law_1054 : decode cL_law 1054 = .ok (.iconst 3, 1) := by decide +kernel
theorem dL_law_1055 : decode cL_law 1055 = .ok (.iadd, 1) := by decide +kernel
theorem dL_law_1056 : decode cL_law 1056 = .ok (.iaload, 1) := by decide +kernel
theorem dL_law_1057 : decode cL_law 1057 = .ok (.aload_n 0, 1) := by decide +kernel
theorem dL_law_1058 : decode cL_law 1058 = .ok (.iload_n 3, 1) := by decide +kernel
theorem dL_law_1059 : decode cL_law 1059 = .ok (.iconst 4, 1) := by decide +kernel
theorem dL_law_1060 : decode cL_law 1060 = .ok (.iadd, 1) := by decide +kernel
theorem dL_law_1061 : decode cL_law 1061 = .ok (.iaload, 1) := by decide +kernel
theorem dL_law_1062 : decode cL_law 1062 = .ok (.invokevirtual 136, 3) := by decide +kernel
theorem dL_law_1065 : decode cL_law 1065 = .ok (.aload_n 2, 1) := by decide +kernel
theorem dL_law_1066 : decode cL_law 1066 = .ok (.aload_n 0, 1) := by decide +kernel
theorem dL_law_1067 : decode cL_law 1067 = .ok (.iload_n 3, 1) := by decide +kernel
theorem dL_law_1068 : decode cL_law 1068 = .ok (.iconst 1, 1) := by decide +kernel
theorem dL_law_1069 : decode cL_law 1069 = .ok (.iadd, 1) := by decide +kernel
theorem dL_law_1070 : decode cL_law 1070 = .ok (.iaload, 1) := by decide +kernel
theorem dL_law_1071 : decode cL_law 1071 = .ok (.aload_n 0, 1) := by decide +kernel
theorem dL_law_1072 : decode cL_law 1072 = .ok (.iload_n 3, 1) := by decide +kernel
theorem dL_law_1073 : decode cL_law 1073 = .ok (.iconst 2, 1) := by decide +kernel
theorem dL_law_1074 : decode cL_law 1074 = .ok (.iadd, 1) := by decide +kernel
theorem dL_law_1075 : decode cL_law 1075 = .ok (.iaload, 1) := by decide +kernel
theorem dL_law_1076 : decode cL_law 1076 = .ok (.aload_n 0, 1) := by decide +kernel
theorem dL_law_1077 : decode cL_law 1077 = .ok (.iload_n 3, 1) := by decide +kernel
theorem dL_law_1078 : decode cL_law 1078 = .ok (.iconst 3, 1) := by decide +kernel
theorem dL_law_1079 : decode cL_law 1079 = .ok (.iadd, 1) := by decide +kernel
theorem dL_law_1080 : decode cL_law 1080 = .ok (.iaload, 1) := by decide +kernel
theorem dL_law_1081 : decode cL_law 1081 = .ok (.aload_n 0, 1) := by decide +kernel
theorem dL_law_1082 : decode cL_law 1082 = .ok (.iload_n 3, 1) := by decide +kernel
theorem dL_law_1083 : decode cL_law 1083 = .ok (.iconst 4, 1) := by decide +kernel
theorem dL_law_1084 : decode cL_law 1084 = .ok (.iadd, 1) := by decide +kernel
theorem dL_law_1085 : decode cL_law 1085 = .ok (.iaload, 1) := by decide +kernel
theorem dL_law_1086 : decode cL_law 1086 = .ok (.invokevirtual 139, 3) := by decide +kernel
theorem dL_law_1089 : decode cL_law 1089 = .ok (.if_icmp .eq 28, 3) := by decide +kernel
theorem dL_law_1092 : decode cL_law 1092 = .ok (.iconst 0, 1) := by decide +kernel
theorem dL_law_1093 : decode cL_law 1093 = .ok (.ireturn, 1) := by decide +kernel
theorem dL_law_1094 : decode cL_law 1094 = .ok (.aload_n 1, 1) := by decide +kernel
theorem dL_law_1095 : decode cL_law 1095 = .ok (.aload_n 0, 1) := by decide +kernel
theorem dL_law_1096 : decode cL_law 1096 = .ok (.iload_n 3, 1) := by decide +kernel
theorem dL_law_1097 : decode cL_law 1097 = .ok (.iconst 1, 1) := by decide +kernel
theorem dL_law_1098 : decode cL_law 1098 = .ok (.iadd, 1) := by decide +kernel
theorem dL_law_1099 : decode cL_law 1099 = .ok (.iaload, 1) := by decide +kernel
theorem dL_law_1100 : decode cL_law 1100 = .ok (.invokevirtual 140, 3) := by decide +kernel
theorem dL_law_1103 : decode cL_law 1103 = .ok (.aload_n 2, 1) := by decide +kernel
theorem dL_law_1104 : decode cL_law 1104 = .ok (.aload_n 0, 1) := by decide +kernel
theorem dL_law_1105 : decode cL_law 1105 = .ok (.iload_n 3, 1) := by decide +kernel
theorem dL_law_1106 : decode cL_law 1106 = .ok (.iconst 1, 1) := by decide +kernel
theorem dL_law_1107 : decode cL_law 1107 = .ok (.iadd, 1) := by decide +kernel
theorem dL_law_1108 : decode cL_law 1108 = .ok (.iaload, 1) := by decide +kernel
theorem dL_law_1109 : decode cL_law 1109 = .ok (.invokevirtual 143, 3) := by decide +kernel
theorem dL_law_1112 : decode cL_law 1112 = .ok (.if_icmp .eq 5, 3) := by decide +kernel
theorem dL_law_1115 : decode cL_law 1115 = .ok (.iconst 0, 1) := by decide +kernel
theorem dL_law_1116 : decode cL_law 1116 = .ok (.ireturn, 1) := by decide +kernel
theorem dL_law_1117 : decode cL_law 1117 = .ok (.iinc 3 5, 3) := by decide +kernel
theorem dL_law_1120 : decode cL_law 1120 = .ok (.goto (-1102), 3) := by decide +kernel
theorem dL_law_1123 : decode cL_law 1123 = .ok (.iconst 1, 1) := by decide +kernel
theorem dL_law_1124 : decode cL_law 1124 = .ok (.ireturn, 1) := by decide +kernel
/-! THE CLAIM OUT OF ONE WALK OF THE LAW'S BODY. Your part is whole_start (and what it stands on); all else here is the same for every law, but numbers. -/
def R_law : String := "LessonCardsLaw"
def lw_P (b : Addr) (xs : List Int32) (args : Array Value) (s : State) : Prop := args = #[.ref b] ∧ s.IntsAt b xs ∧ xs.length ≤ 2560 ∧ (Jvm.Cond.and given_1 narrow_1).before args s = true
def lw_Q (_ : Array Value) (s : State) (o : Outcome) (t : State) : Prop := o = .returned (some (.int 1)) ∧ Framed s o t [] 600000 7302250
def lw_Z (below : List Frame) (a : Array Value) (s : State) : State → Prop := fun t => ∃ o, t.status = .running ∧ Ended t below o ∧ lw_Q a s o t
/-- the law's own end, with 1 on the stack, nothing written that was there before, its room as the claim has it -/
theorem lw_ret {p : Program} {l : Launch} {e : Env} {s : State} {m : MethodId} {below : List Frame} {meth : Method} {c : Code} {b : Nat} (hx : p.tables.exec = Jvm.exec) (hb : c.code = code) (hr : meth.sig.returnType = ret) (hlocks : meth.locks = false) {pc : Nat} {H : Heap} {ls : Array Slot} (hdg : decode code pc = .ok (.ireturn, 1)) : W p l e room_1 s m #[Value.ref b] below meth c H [] 600000 7302250 (lw_Z below #[Value.ref b] s) (F0 m pc ls [.int 1]) := by
  intro T hT X
  obtain ⟨fs, hret, hrun, hended, hW, hframe⟩ := X.leave (v := some (.int 1)) (hlocks := hlocks) (fun h => by rw [hr] at h; cases h)
  have hmeth' : T.vm.method? m = some meth := X.method'
  refine ⟨T.setFrames fs, ?_, .returned (some (.int 1)), hrun, hended, rfl, ⟨_, rfl⟩, hW, hframe⟩
  jvm_step X.here [X.here.top, hx, hb, hdg, hmeth', hr, ret, narrow_b1]
  (try refine ⟨rfl, ?_⟩); (try refine ⟨rfl, ?_⟩)
  first | (intro acts; rw [hret _ acts rfl rfl rfl]) | rw [hret _ _ rfl rfl rfl]
  exact Steps.refl _
/-- what holds at the law's entry: the machine, the code, the tables' words (any of lw_tbl by 'hts w (by decide +kernel)'), the script of L ints xs at the cell b, what the Statement gives of the start (any of its parts by flat_of_before) -/
def lw_At (p : Program) (s : State) (m : MethodId) (meth : Method) (c : Code) (b L : Nat) (xs : Nat → Int32) : Prop :=
  p.tables.exec = Jvm.exec ∧ c.code = code ∧ meth.sig.returnType = ret ∧ c.maxLocals = 4 ∧ s.vm.findClass R_law = some m.cls ∧ (∀ w ∈ lw_tbl, w.before #[Value.ref b] s = true) ∧ va_X b L xs s s.heap ∧ b < s.heap.size ∧ meth.locks = false ∧ (Jvm.Cond.and given_1 narrow_1).before #[Value.ref b] s = true
def mm_sc (xs : Nat → Int32) (L : Nat) (i : Int32) : Option Int32 := if ¬ (i < 0 ∨ L ≤ i.toNatClampNeg) then some (xs i.toNatClampNeg) else none
/-- the law's own: where its script is, and what its end is -/
def mm_law (g : mm_c) (sc : Option Nat) (L : Nat) (xs : Nat → Int32) : Prop := match g with
  | (p, l, e, R, s, m, args, below, meth, c, G, cy, M0, nL, Q) => ∃ b, sc = some b ∧ va_X b L xs s s.heap ∧ b < s.heap.size ∧ (∀ q, mm_D M0 q → s.heap.size ≤ q) ∧ args = #[Value.ref b] ∧ Q = lw_Z below #[Value.ref b] s
section
variable {g : mm_c} {cc : ByteArray} {own nm : String} {ret1 : Option FieldType} {nL fr lo mc ms cells slots : Nat} {M M1 : mm_M} {pc : Nat} {lv : List (Nat × mm_V)} {st : List mm_V} {sc : Option Nat} {xs : Nat → Int32} {L : Nat}
theorem xr_sld (q : Nat) (C : mm_ok g cc own ret1 nm nL fr lo mc ms) (S : mm_law g sc L xs) {i v : Int32} (hf : mm_sc xs L i = some v) (d : decode cc pc = .ok (.iaload, 1)) (hq : pc + 1 = q) (kk : mm_X g cells slots M q lv (mm_i v :: st)) : mm_X g cells slots M pc lv (mm_i i :: mm_r sc :: st) := by
  subst hq
  obtain ⟨p, l, e, R, s, m, args, below, meth, c, G, cy, M0, nL2, Q⟩ := g
  obtain ⟨hx, hb, hml, hnl, hown, hts, hv, hlk, hr, hnm, hsz, hR⟩ := C
  obtain ⟨b, rfl, hX, hbl, hD, -, -⟩ := S
  unfold mm_sc at hf
  split at hf
  case isFalse => cases hf
  case isTrue hin =>
    have := (Option.some.inj hf).symm
    subst this
    intro H locs ls a1 a2 a3 a4 hl
    exact va_sld (rest := mm_st st) hx hb hX hbl (fun z => absurd hbl (Nat.not_lt.mpr (hD b z))) a4 hin d (kk H locs ls a1 a2 a3 a4 hl)
theorem xr_slen (q : Nat) (C : mm_ok g cc own ret1 nm nL fr lo mc ms) (S : mm_law g sc L xs) (d : decode cc pc = .ok (.arraylength, 1)) (hq : pc + 1 = q) (kk : mm_X g cells slots M q lv (mm_i (nI L) :: st)) : mm_X g cells slots M pc lv (mm_r sc :: st) := by
  subst hq
  obtain ⟨p, l, e, R, s, m, args, below, meth, c, G, cy, M0, nL2, Q⟩ := g
  obtain ⟨hx, hb, hml, hnl, hown, hts, hv, hlk, hr, hnm, hsz, hR⟩ := C
  obtain ⟨b, rfl, hX, hbl, hD, -, -⟩ := S
  intro H locs ls a1 a2 a3 a4 hl
  exact va_slen (rest := mm_st st) hx hb hX hbl (fun z => absurd hbl (Nat.not_lt.mpr (hD b z))) a4 d (kk H locs ls a1 a2 a3 a4 hl)
theorem xr_lret1 (C : mm_ok g cL_law own (some .boolean) nm nL 11 398 600000 7302250) (S : mm_law g sc L xs) (hcs : cells ≤ 600000 ∧ slots ≤ 7302250) (d : decode cL_law pc = .ok (.ireturn, 1)) : mm_X g cells slots M pc lv [mm_i 1] := by
  obtain ⟨p, l, e, R, s, m, args, below, meth, c, G, cy, M0, nL2, Q⟩ := g
  obtain ⟨hx, hb, hml, hnl, hown, hts, hv, hlk, hr, hnm, hsz, hR⟩ := C
  obtain ⟨b, rfl, hX, hbl, hD, rfl, rfl⟩ := S
  subst hR
  intro H locs ls a1 a2 a3 a4 hl
  exact W.widen hcs.1 hcs.2 (va_forget (fun q hq => hD _ (a4.2.2 q hq)) (lw_ret hx hb hr hlk d))
end

def h_L_law_18 (g : mm_c) (sc : Option Nat) (v1 : Option Nat) (v2 : Option Nat) : (Nat × mm_M × Int32) → Prop := fun x => mm_X g (63 + 41 * x.1) (52194 + 7185 * x.1) x.2.1 18 [(0, mm_r sc), (1, mm_r v1), (2, mm_r v2), (3, mm_i x.2.2)] []
noncomputable def f_L_law_1117 (sc : Option Nat) (xs : Nat → Int32) (L : Nat) (M : mm_M) (c18 : Nat) (v1 : Option Nat) (v2 : Option Nat) (v3 : Int32) : Option ((Nat × mm_M × Int32) ⊕ (Int32)) :=
  some (.inl ((c18 + 1), M, (v3 + 5)))
set_option maxRecDepth 20000 in
theorem w_L_law_1117 {g : mm_c} {nm : String} {sc : Option Nat} {xs : Nat → Int32} {L : Nat} (C : mm_ok g cL_law "LessonCardsLaw" (some .boolean) nm 4 11 398 600000 7302250) (S : mm_law g sc L xs) {M : mm_M} {c18 : Nat} {v1 : Option Nat} {v2 : Option Nat} {v3 : Int32} {res : (Nat × mm_M × Int32) ⊕ (Int32)} (hf : f_L_law_1117 sc xs L M c18 v1 v2 v3 = some res) (ko : (mm_o (h_L_law_18 g sc v1 v2) (fun z : Int32 => z = 1)) res) : mm_X g (63 + 41 * c18 + 38) (52194 + 7185 * c18 + 6171) M 1117 [(0, mm_r sc), (1, mm_r v1), (2, mm_r v2), (3, mm_i v3)] [] := by
  unfold f_L_law_1117 at hf
  refine xr_iinc 1120 3 C dL_law_1117 rfl (by decide) (v := 5) (by decide) rfl [(3, mm_i (v3 + 5)), (0, mm_r sc), (1, mm_r v1), (2, mm_r v2)] rfl ?_
  refine xr_goto 18 C dL_law_1120 (by decide) ?_
  refine xr_sub [1, 2, 3, 0] (lv2 := [(0, mm_r sc), (1, mm_r v1), (2, mm_r v2), (3, mm_i (v3 + 5))]) rfl ?_
  obtain rfl := Option.some.inj hf
  exact xr_widen (by omega) (by omega) ko
noncomputable def f_L_law_193 (sc : Option Nat) (xs : Nat → Int32) (L : Nat) (M : mm_M) : Option (Int32) :=
  some 0
set_option maxRecDepth 20000 in
theorem w_L_law_193 {g : mm_c} {nm : String} {sc : Option Nat} {xs : Nat → Int32} {L : Nat} (C : mm_ok g cL_law "LessonCardsLaw" (some .boolean) nm 4 11 398 600000 7302250) (S : mm_law g sc L xs) {M : mm_M} {res : Int32} (hf : f_L_law_193 sc xs L M = some res) (ko : (fun z : Int32 => z = 1) res) : mm_X g 21055 3730914 M 193 [] [] := by
  unfold f_L_law_193 at hf
  refine xr_iconst 194 C (v := 0) dL_law_193 (by decide) rfl ?_
  obtain rfl := Option.some.inj hf
  exact absurd ko (by decide)
noncomputable def f_L_law_172 (sc : Option Nat) (xs : Nat → Int32) (L : Nat) (M : mm_M) (c18 : Nat) (v1 : Option Nat) (v2 : Option Nat) (v3 : Int32) : Option ((Nat × mm_M × Int32) ⊕ (Int32)) :=
  (mm_sc xs L (v3 + 1)).bind fun x177 =>
  (mm_rc M v1 10).bind fun u178 =>
  mm_gd (c18 < 512) <|
  mm_b2 (f_X9_card M v1 x177) fun x178 M178 =>
  (mm_sc xs L (v3 + 1)).bind fun x186 =>
  (mm_rc M178 v2 11).bind fun u187 =>
  mm_b2 (f_X10_card M178 v2 x186) fun x187 M187 =>
  if x178 = x187 then f_L_law_1117 sc xs L M187 c18 v1 v2 v3 else mm_gd (c18 ≤ 512) (mm_mp (f_L_law_193 sc xs L M187))
set_option maxRecDepth 20000 in
theorem w_L_law_172 {g : mm_c} {nm : String} {sc : Option Nat} {xs : Nat → Int32} {L : Nat} (C : mm_ok g cL_law "LessonCardsLaw" (some .boolean) nm 4 11 398 600000 7302250) (S : mm_law g sc L xs) {M : mm_M} {c18 : Nat} {v1 : Option Nat} {v2 : Option Nat} {v3 : Int32} {res : (Nat × mm_M × Int32) ⊕ (Int32)} (hf : f_L_law_172 sc xs L M c18 v1 v2 v3 = some res) (ko : (mm_o (h_L_law_18 g sc v1 v2) (fun z : Int32 => z = 1)) res) : mm_X g (63 + 41 * c18) (52194 + 7185 * c18) M 172 [(0, mm_r sc), (1, mm_r v1), (2, mm_r v2), (3, mm_i v3)] [] := by
  unfold f_L_law_172 at hf
  refine xr_aload_n 173 1 C dL_law_172 rfl rfl rfl ?_
  refine xr_aload_n 174 0 C dL_law_173 rfl rfl rfl ?_
  refine xr_iload_n 175 3 C dL_law_174 rfl rfl rfl ?_
  refine xr_iconst 176 C (v := 1) dL_law_175 (by decide) rfl ?_
  refine xr_iadd 177 C dL_law_176 rfl ?_
  obtain ⟨x177, h177, hf⟩ := mm_bd_e hf
  refine xr_sld 178 C S h177 dL_law_177 rfl ?_
  obtain ⟨u178, g178, hf⟩ := mm_bd_e hf
  obtain ⟨hc18, hf⟩ := mm_gd_e hf
  obtain ⟨x178, M178, h178, hf⟩ := mm_b2_e hf
  refine xr_callV 181 C [mm_i x177] cm_L_13 (fun l G cy => c_X9_card l G cy h178) g178 rfl rfl ⟨⟨Nat.le_of_ble_eq_true rfl, Nat.le_of_ble_eq_true rfl⟩, (by omega), (by omega)⟩ (Nat.le_of_ble_eq_true rfl) dL_law_178 rfl ?_
  refine xr_aload_n 182 2 C dL_law_181 rfl rfl rfl ?_
  refine xr_aload_n 183 0 C dL_law_182 rfl rfl rfl ?_
  refine xr_iload_n 184 3 C dL_law_183 rfl rfl rfl ?_
  refine xr_iconst 185 C (v := 1) dL_law_184 (by decide) rfl ?_
  refine xr_iadd 186 C dL_law_185 rfl ?_
  obtain ⟨x186, h186, hf⟩ := mm_bd_e hf
  refine xr_sld 187 C S h186 dL_law_186 rfl ?_
  obtain ⟨u187, g187, hf⟩ := mm_bd_e hf
  obtain ⟨x187, M187, h187, hf⟩ := mm_b2_e hf
  refine xr_callV 190 C [mm_i x186] cm_L_17 (fun l G cy => c_X10_card l G cy h187) g187 rfl rfl ⟨⟨Nat.le_of_ble_eq_true rfl, Nat.le_of_ble_eq_true rfl⟩, (by omega), (by omega)⟩ (Nat.le_of_ble_eq_true rfl) dL_law_187 rfl ?_
  refine xr_icmp_eq 1117 193 C dL_law_190 (by decide) rfl (fun hc => ?_) (fun hc => ?_)
  · replace hf := (if_pos hc).symm.trans hf
    exact w_L_law_1117 C S hf ko
  · replace hf := (if_neg hc).symm.trans hf
    refine xr_sub [] (lv2 := []) rfl ?_
    obtain ⟨hcx, hf⟩ := mm_gd_e hf
    obtain ⟨z, hf2, rfl⟩ := mm_mp_e hf
    clear hf
    have hf := hf2
    clear hf2
    refine xr_widen (k := 21055) (n := 3730914) (by omega) (by omega) ?_
    exact w_L_law_193 C S hf ko
noncomputable def f_L_law_226 (sc : Option Nat) (xs : Nat → Int32) (L : Nat) (M : mm_M) : Option (Int32) :=
  some 0
set_option maxRecDepth 20000 in
theorem w_L_law_226 {g : mm_c} {nm : String} {sc : Option Nat} {xs : Nat → Int32} {L : Nat} (C : mm_ok g cL_law "LessonCardsLaw" (some .boolean) nm 4 11 398 600000 7302250) (S : mm_law g sc L xs) {M : mm_M} {res : Int32} (hf : f_L_law_226 sc xs L M = some res) (ko : (fun z : Int32 => z = 1) res) : mm_X g 21055 3730914 M 226 [] [] := by
  unfold f_L_law_226 at hf
  refine xr_iconst 227 C (v := 0) dL_law_226 (by decide) rfl ?_
  obtain rfl := Option.some.inj hf
  exact absurd ko (by decide)
noncomputable def f_L_law_195 (sc : Option Nat) (xs : Nat → Int32) (L : Nat) (M : mm_M) (c18 : Nat) (v1 : Option Nat) (v2 : Option Nat) (v3 : Int32) : Option ((Nat × mm_M × Int32) ⊕ (Int32)) :=
  (mm_sc xs L (v3 + 1)).bind fun x200 =>
  (mm_sc xs L (v3 + 2)).bind fun x205 =>
  (mm_rc M v1 10).bind fun u206 =>
  mm_gd (c18 < 512) <|
  mm_b2 (f_X9_lean M v1 x200 x205) fun x206 M206 =>
  (mm_sc xs L (v3 + 1)).bind fun x214 =>
  (mm_sc xs L (v3 + 2)).bind fun x219 =>
  (mm_rc M206 v2 11).bind fun u220 =>
  mm_b2 (f_X10_lean M206 v2 x214 x219) fun x220 M220 =>
  if x206 = x220 then f_L_law_1117 sc xs L M220 c18 v1 v2 v3 else mm_gd (c18 ≤ 512) (mm_mp (f_L_law_226 sc xs L M220))
set_option maxRecDepth 20000 in
theorem w_L_law_195 {g : mm_c} {nm : String} {sc : Option Nat} {xs : Nat → Int32} {L : Nat} (C : mm_ok g cL_law "LessonCardsLaw" (some .boolean) nm 4 11 398 600000 7302250) (S : mm_law g sc L xs) {M : mm_M} {c18 : Nat} {v1 : Option Nat} {v2 : Option Nat} {v3 : Int32} {res : (Nat × mm_M × Int32) ⊕ (Int32)} (hf : f_L_law_195 sc xs L M c18 v1 v2 v3 = some res) (ko : (mm_o (h_L_law_18 g sc v1 v2) (fun z : Int32 => z = 1)) res) : mm_X g (63 + 41 * c18) (52194 + 7185 * c18) M 195 [(0, mm_r sc), (1, mm_r v1), (2, mm_r v2), (3, mm_i v3)] [] := by
  unfold f_L_law_195 at hf
  refine xr_aload_n 196 1 C dL_law_195 rfl rfl rfl ?_
  refine xr_aload_n 197 0 C dL_law_196 rfl rfl rfl ?_
  refine xr_iload_n 198 3 C dL_law_197 rfl rfl rfl ?_
  refine xr_iconst 199 C (v := 1) dL_law_198 (by decide) rfl ?_
  refine xr_iadd 200 C dL_law_199 rfl ?_
  obtain ⟨x200, h200, hf⟩ := mm_bd_e hf
  refine xr_sld 201 C S h200 dL_law_200 rfl ?_
  refine xr_aload_n 202 0 C dL_law_201 rfl rfl rfl ?_
  refine xr_iload_n 203 3 C dL_law_202 rfl rfl rfl ?_
  refine xr_iconst 204 C (v := 2) dL_law_203 (by decide) rfl ?_
  refine xr_iadd 205 C dL_law_204 rfl ?_
  obtain ⟨x205, h205, hf⟩ := mm_bd_e hf
  refine xr_sld 206 C S h205 dL_law_205 rfl ?_
  obtain ⟨u206, g206, hf⟩ := mm_bd_e hf
  obtain ⟨hc18, hf⟩ := mm_gd_e hf
  obtain ⟨x206, M206, h206, hf⟩ := mm_b2_e hf
  refine xr_callV 209 C [mm_i x200, mm_i x205] cm_L_18 (fun l G cy => c_X9_lean l G cy h206) g206 rfl rfl ⟨⟨Nat.le_of_ble_eq_true rfl, Nat.le_of_ble_eq_true rfl⟩, (by omega), (by omega)⟩ (Nat.le_of_ble_eq_true rfl) dL_law_206 rfl ?_
  refine xr_aload_n 210 2 C dL_law_209 rfl rfl rfl ?_
  refine xr_aload_n 211 0 C dL_law_210 rfl rfl rfl ?_
  refine xr_iload_n 212 3 C dL_law_211 rfl rfl rfl ?_
  refine xr_iconst 213 C (v := 1) dL_law_212 (by decide) rfl ?_
  refine xr_iadd 214 C dL_law_213 rfl ?_
  obtain ⟨x214, h214, hf⟩ := mm_bd_e hf
  refine xr_sld 215 C S h214 dL_law_214 rfl ?_
  refine xr_aload_n 216 0 C dL_law_215 rfl rfl rfl ?_
  refine xr_iload_n 217 3 C dL_law_216 rfl rfl rfl ?_
  refine xr_iconst 218 C (v := 2) dL_law_217 (by decide) rfl ?_
  refine xr_iadd 219 C dL_law_218 rfl ?_
  obtain ⟨x219, h219, hf⟩ := mm_bd_e hf
  refine xr_sld 220 C S h219 dL_law_219 rfl ?_
  obtain ⟨u220, g220, hf⟩ := mm_bd_e hf
  obtain ⟨x220, M220, h220, hf⟩ := mm_b2_e hf
  refine xr_callV 223 C [mm_i x214, mm_i x219] cm_L_22 (fun l G cy => c_X10_lean l G cy h220) g220 rfl rfl ⟨⟨Nat.le_of_ble_eq_true rfl, Nat.le_of_ble_eq_true rfl⟩, (by omega), (by omega)⟩ (Nat.le_of_ble_eq_true rfl) dL_law_220 rfl ?_
  refine xr_icmp_eq 1117 226 C dL_law_223 (by decide) rfl (fun hc => ?_) (fun hc => ?_)
  · replace hf := (if_pos hc).symm.trans hf
    refine xr_widen (k := (63 + 41 * c18 + 38)) (n := (52194 + 7185 * c18 + 6171)) (by omega) (by omega) ?_
    exact w_L_law_1117 C S hf ko
  · replace hf := (if_neg hc).symm.trans hf
    refine xr_sub [] (lv2 := []) rfl ?_
    obtain ⟨hcx, hf⟩ := mm_gd_e hf
    obtain ⟨z, hf2, rfl⟩ := mm_mp_e hf
    clear hf
    have hf := hf2
    clear hf2
    refine xr_widen (k := 21055) (n := 3730914) (by omega) (by omega) ?_
    exact w_L_law_226 C S hf ko
noncomputable def f_L_law_249 (sc : Option Nat) (xs : Nat → Int32) (L : Nat) (M : mm_M) : Option (Int32) :=
  some 0
set_option maxRecDepth 20000 in
theorem w_L_law_249 {g : mm_c} {nm : String} {sc : Option Nat} {xs : Nat → Int32} {L : Nat} (C : mm_ok g cL_law "LessonCardsLaw" (some .boolean) nm 4 11 398 600000 7302250) (S : mm_law g sc L xs) {M : mm_M} {res : Int32} (hf : f_L_law_249 sc xs L M = some res) (ko : (fun z : Int32 => z = 1) res) : mm_X g 21055 3730914 M 249 [] [] := by
  unfold f_L_law_249 at hf
  refine xr_iconst 250 C (v := 0) dL_law_249 (by decide) rfl ?_
  obtain rfl := Option.some.inj hf
  exact absurd ko (by decide)
noncomputable def f_L_law_228 (sc : Option Nat) (xs : Nat → Int32) (L : Nat) (M : mm_M) (c18 : Nat) (v1 : Option Nat) (v2 : Option Nat) (v3 : Int32) : Option ((Nat × mm_M × Int32) ⊕ (Int32)) :=
  (mm_sc xs L (v3 + 1)).bind fun x233 =>
  (mm_rc M v1 10).bind fun u234 =>
  mm_gd (c18 < 512) <|
  mm_b2 (f_X9_rule M v1 x233) fun x234 M234 =>
  (mm_sc xs L (v3 + 1)).bind fun x242 =>
  (mm_rc M234 v2 11).bind fun u243 =>
  mm_b2 (f_X10_rule M234 v2 x242) fun x243 M243 =>
  if x234 = x243 then f_L_law_1117 sc xs L M243 c18 v1 v2 v3 else mm_gd (c18 ≤ 512) (mm_mp (f_L_law_249 sc xs L M243))
set_option maxRecDepth 20000 in
theorem w_L_law_228 {g : mm_c} {nm : String} {sc : Option Nat} {xs : Nat → Int32} {L : Nat} (C : mm_ok g cL_law "LessonCardsLaw" (some .boolean) nm 4 11 398 600000 7302250) (S : mm_law g sc L xs) {M : mm_M} {c18 : Nat} {v1 : Option Nat} {v2 : Option Nat} {v3 : Int32} {res : (Nat × mm_M × Int32) ⊕ (Int32)} (hf : f_L_law_228 sc xs L M c18 v1 v2 v3 = some res) (ko : (mm_o (h_L_law_18 g sc v1 v2) (fun z : Int32 => z = 1)) res) : mm_X g (63 + 41 * c18) (52194 + 7185 * c18) M 228 [(0, mm_r sc), (1, mm_r v1), (2, mm_r v2), (3, mm_i v3)] [] := by
  unfold f_L_law_228 at hf
  refine xr_aload_n 229 1 C dL_law_228 rfl rfl rfl ?_
  refine xr_aload_n 230 0 C dL_law_229 rfl rfl rfl ?_
  refine xr_iload_n 231 3 C dL_law_230 rfl rfl rfl ?_
  refine xr_iconst 232 C (v := 1) dL_law_231 (by decide) rfl ?_
  refine xr_iadd 233 C dL_law_232 rfl ?_
  obtain ⟨x233, h233, hf⟩ := mm_bd_e hf
  refine xr_sld 234 C S h233 dL_law_233 rfl ?_
  obtain ⟨u234, g234, hf⟩ := mm_bd_e hf
  obtain ⟨hc18, hf⟩ := mm_gd_e hf
  obtain ⟨x234, M234, h234, hf⟩ := mm_b2_e hf
  refine xr_callV 237 C [mm_i x233] cm_L_23 (fun l G cy => c_X9_rule l G cy h234) g234 rfl rfl ⟨⟨Nat.le_of_ble_eq_true rfl, Nat.le_of_ble_eq_true rfl⟩, (by omega), (by omega)⟩ (Nat.le_of_ble_eq_true rfl) dL_law_234 rfl ?_
  refine xr_aload_n 238 2 C dL_law_237 rfl rfl rfl ?_
  refine xr_aload_n 239 0 C dL_law_238 rfl rfl rfl ?_
  refine xr_iload_n 240 3 C dL_law_239 rfl rfl rfl ?_
  refine xr_iconst 241 C (v := 1) dL_law_240 (by decide) rfl ?_
  refine xr_iadd 242 C dL_law_241 rfl ?_
  obtain ⟨x242, h242, hf⟩ := mm_bd_e hf
  refine xr_sld 243 C S h242 dL_law_242 rfl ?_
  obtain ⟨u243, g243, hf⟩ := mm_bd_e hf
  obtain ⟨x243, M243, h243, hf⟩ := mm_b2_e hf
  refine xr_callV 246 C [mm_i x242] cm_L_26 (fun l G cy => c_X10_rule l G cy h243) g243 rfl rfl ⟨⟨Nat.le_of_ble_eq_true rfl, Nat.le_of_ble_eq_true rfl⟩, (by omega), (by omega)⟩ (Nat.le_of_ble_eq_true rfl) dL_law_243 rfl ?_
  refine xr_icmp_eq 1117 249 C dL_law_246 (by decide) rfl (fun hc => ?_) (fun hc => ?_)
  · replace hf := (if_pos hc).symm.trans hf
    refine xr_widen (k := (63 + 41 * c18 + 38)) (n := (52194 + 7185 * c18 + 6171)) (by omega) (by omega) ?_
    exact w_L_law_1117 C S hf ko
  · replace hf := (if_neg hc).symm.trans hf
    refine xr_sub [] (lv2 := []) rfl ?_
    obtain ⟨hcx, hf⟩ := mm_gd_e hf
    obtain ⟨z, hf2, rfl⟩ := mm_mp_e hf
    clear hf
    have hf := hf2
    clear hf2
    refine xr_widen (k := 21055) (n := 3730914) (by omega) (by omega) ?_
    exact w_L_law_249 C S hf ko
noncomputable def f_L_law_282 (sc : Option Nat) (xs : Nat → Int32) (L : Nat) (M : mm_M) : Option (Int32) :=
  some 0
set_option maxRecDepth 20000 in
theorem w_L_law_282 {g : mm_c} {nm : String} {sc : Option Nat} {xs : Nat → Int32} {L : Nat} (C : mm_ok g cL_law "LessonCardsLaw" (some .boolean) nm 4 11 398 600000 7302250) (S : mm_law g sc L xs) {M : mm_M} {res : Int32} (hf : f_L_law_282 sc xs L M = some res) (ko : (fun z : Int32 => z = 1) res) : mm_X g 21055 3730914 M 282 [] [] := by
  unfold f_L_law_282 at hf
  refine xr_iconst 283 C (v := 0) dL_law_282 (by decide) rfl ?_
  obtain rfl := Option.some.inj hf
  exact absurd ko (by decide)
noncomputable def f_L_law_251 (sc : Option Nat) (xs : Nat → Int32) (L : Nat) (M : mm_M) (c18 : Nat) (v1 : Option Nat) (v2 : Option Nat) (v3 : Int32) : Option ((Nat × mm_M × Int32) ⊕ (Int32)) :=
  (mm_sc xs L (v3 + 1)).bind fun x256 =>
  (mm_sc xs L (v3 + 2)).bind fun x261 =>
  (mm_rc M v1 10).bind fun u262 =>
  mm_gd (c18 < 512) <|
  mm_b2 (f_X9_table M v1 x256 x261) fun x262 M262 =>
  (mm_sc xs L (v3 + 1)).bind fun x270 =>
  (mm_sc xs L (v3 + 2)).bind fun x275 =>
  (mm_rc M262 v2 11).bind fun u276 =>
  mm_b2 (f_X10_table M262 v2 x270 x275) fun x276 M276 =>
  if x262 = x276 then f_L_law_1117 sc xs L M276 c18 v1 v2 v3 else mm_gd (c18 ≤ 512) (mm_mp (f_L_law_282 sc xs L M276))
set_option maxRecDepth 20000 in
theorem w_L_law_251 {g : mm_c} {nm : String} {sc : Option Nat} {xs : Nat → Int32} {L : Nat} (C : mm_ok g cL_law "LessonCardsLaw" (some .boolean) nm 4 11 398 600000 7302250) (S : mm_law g sc L xs) {M : mm_M} {c18 : Nat} {v1 : Option Nat} {v2 : Option Nat} {v3 : Int32} {res : (Nat × mm_M × Int32) ⊕ (Int32)} (hf : f_L_law_251 sc xs L M c18 v1 v2 v3 = some res) (ko : (mm_o (h_L_law_18 g sc v1 v2) (fun z : Int32 => z = 1)) res) : mm_X g (63 + 41 * c18) (52194 + 7185 * c18) M 251 [(0, mm_r sc), (1, mm_r v1), (2, mm_r v2), (3, mm_i v3)] [] := by
  unfold f_L_law_251 at hf
  refine xr_aload_n 252 1 C dL_law_251 rfl rfl rfl ?_
  refine xr_aload_n 253 0 C dL_law_252 rfl rfl rfl ?_
  refine xr_iload_n 254 3 C dL_law_253 rfl rfl rfl ?_
  refine xr_iconst 255 C (v := 1) dL_law_254 (by decide) rfl ?_
  refine xr_iadd 256 C dL_law_255 rfl ?_
  obtain ⟨x256, h256, hf⟩ := mm_bd_e hf
  refine xr_sld 257 C S h256 dL_law_256 rfl ?_
  refine xr_aload_n 258 0 C dL_law_257 rfl rfl rfl ?_
  refine xr_iload_n 259 3 C dL_law_258 rfl rfl rfl ?_
  refine xr_iconst 260 C (v := 2) dL_law_259 (by decide) rfl ?_
  refine xr_iadd 261 C dL_law_260 rfl ?_
  obtain ⟨x261, h261, hf⟩ := mm_bd_e hf
  refine xr_sld 262 C S h261 dL_law_261 rfl ?_
  obtain ⟨u262, g262, hf⟩ := mm_bd_e hf
  obtain ⟨hc18, hf⟩ := mm_gd_e hf
  obtain ⟨x262, M262, h262, hf⟩ := mm_b2_e hf
  refine xr_callV 265 C [mm_i x256, mm_i x261] cm_L_27 (fun l G cy => c_X9_table l G cy h262) g262 rfl rfl ⟨⟨Nat.le_of_ble_eq_true rfl, Nat.le_of_ble_eq_true rfl⟩, (by omega), (by omega)⟩ (Nat.le_of_ble_eq_true rfl) dL_law_262 rfl ?_
  refine xr_aload_n 266 2 C dL_law_265 rfl rfl rfl ?_
  refine xr_aload_n 267 0 C dL_law_266 rfl rfl rfl ?_
  refine xr_iload_n 268 3 C dL_law_267 rfl rfl rfl ?_
  refine xr_iconst 269 C (v := 1) dL_law_268 (by decide) rfl ?_
  refine xr_iadd 270 C dL_law_269 rfl ?_
  obtain ⟨x270, h270, hf⟩ := mm_bd_e hf
  refine xr_sld 271 C S h270 dL_law_270 rfl ?_
  refine xr_aload_n 272 0 C dL_law_271 rfl rfl rfl ?_
  refine xr_iload_n 273 3 C dL_law_272 rfl rfl rfl ?_
  refine xr_iconst 274 C (v := 2) dL_law_273 (by decide) rfl ?_
  refine xr_iadd 275 C dL_law_274 rfl ?_
  obtain ⟨x275, h275, hf⟩ := mm_bd_e hf
  refine xr_sld 276 C S h275 dL_law_275 rfl ?_
  obtain ⟨u276, g276, hf⟩ := mm_bd_e hf
  obtain ⟨x276, M276, h276, hf⟩ := mm_b2_e hf
  refine xr_callV 279 C [mm_i x270, mm_i x275] cm_L_30 (fun l G cy => c_X10_table l G cy h276) g276 rfl rfl ⟨⟨Nat.le_of_ble_eq_true rfl, Nat.le_of_ble_eq_true rfl⟩, (by omega), (by omega)⟩ (Nat.le_of_ble_eq_true rfl) dL_law_276 rfl ?_
  refine xr_icmp_eq 1117 282 C dL_law_279 (by decide) rfl (fun hc => ?_) (fun hc => ?_)
  · replace hf := (if_pos hc).symm.trans hf
    refine xr_widen (k := (63 + 41 * c18 + 38)) (n := (52194 + 7185 * c18 + 6171)) (by omega) (by omega) ?_
    exact w_L_law_1117 C S hf ko
  · replace hf := (if_neg hc).symm.trans hf
    refine xr_sub [] (lv2 := []) rfl ?_
    obtain ⟨hcx, hf⟩ := mm_gd_e hf
    obtain ⟨z, hf2, rfl⟩ := mm_mp_e hf
    clear hf
    have hf := hf2
    clear hf2
    refine xr_widen (k := 21055) (n := 3730914) (by omega) (by omega) ?_
    exact w_L_law_282 C S hf ko
noncomputable def f_L_law_315 (sc : Option Nat) (xs : Nat → Int32) (L : Nat) (M : mm_M) : Option (Int32) :=
  some 0
set_option maxRecDepth 20000 in
theorem w_L_law_315 {g : mm_c} {nm : String} {sc : Option Nat} {xs : Nat → Int32} {L : Nat} (C : mm_ok g cL_law "LessonCardsLaw" (some .boolean) nm 4 11 398 600000 7302250) (S : mm_law g sc L xs) {M : mm_M} {res : Int32} (hf : f_L_law_315 sc xs L M = some res) (ko : (fun z : Int32 => z = 1) res) : mm_X g 21055 3730914 M 315 [] [] := by
  unfold f_L_law_315 at hf
  refine xr_iconst 316 C (v := 0) dL_law_315 (by decide) rfl ?_
  obtain rfl := Option.some.inj hf
  exact absurd ko (by decide)
noncomputable def f_L_law_284 (sc : Option Nat) (xs : Nat → Int32) (L : Nat) (M : mm_M) (c18 : Nat) (v1 : Option Nat) (v2 : Option Nat) (v3 : Int32) : Option ((Nat × mm_M × Int32) ⊕ (Int32)) :=
  (mm_sc xs L (v3 + 1)).bind fun x289 =>
  (mm_sc xs L (v3 + 2)).bind fun x294 =>
  (mm_rc M v1 10).bind fun u295 =>
  mm_gd (c18 < 512) <|
  mm_b2 (f_X9_most M v1 x289 x294) fun x295 M295 =>
  (mm_sc xs L (v3 + 1)).bind fun x303 =>
  (mm_sc xs L (v3 + 2)).bind fun x308 =>
  (mm_rc M295 v2 11).bind fun u309 =>
  mm_b2 (f_X10_most M295 v2 x303 x308) fun x309 M309 =>
  if x295 = x309 then f_L_law_1117 sc xs L M309 c18 v1 v2 v3 else mm_gd (c18 ≤ 512) (mm_mp (f_L_law_315 sc xs L M309))
set_option maxRecDepth 20000 in
theorem w_L_law_284 {g : mm_c} {nm : String} {sc : Option Nat} {xs : Nat → Int32} {L : Nat} (C : mm_ok g cL_law "LessonCardsLaw" (some .boolean) nm 4 11 398 600000 7302250) (S : mm_law g sc L xs) {M : mm_M} {c18 : Nat} {v1 : Option Nat} {v2 : Option Nat} {v3 : Int32} {res : (Nat × mm_M × Int32) ⊕ (Int32)} (hf : f_L_law_284 sc xs L M c18 v1 v2 v3 = some res) (ko : (mm_o (h_L_law_18 g sc v1 v2) (fun z : Int32 => z = 1)) res) : mm_X g (63 + 41 * c18) (52194 + 7185 * c18) M 284 [(0, mm_r sc), (1, mm_r v1), (2, mm_r v2), (3, mm_i v3)] [] := by
  unfold f_L_law_284 at hf
  refine xr_aload_n 285 1 C dL_law_284 rfl rfl rfl ?_
  refine xr_aload_n 286 0 C dL_law_285 rfl rfl rfl ?_
  refine xr_iload_n 287 3 C dL_law_286 rfl rfl rfl ?_
  refine xr_iconst 288 C (v := 1) dL_law_287 (by decide) rfl ?_
  refine xr_iadd 289 C dL_law_288 rfl ?_
  obtain ⟨x289, h289, hf⟩ := mm_bd_e hf
  refine xr_sld 290 C S h289 dL_law_289 rfl ?_
  refine xr_aload_n 291 0 C dL_law_290 rfl rfl rfl ?_
  refine xr_iload_n 292 3 C dL_law_291 rfl rfl rfl ?_
  refine xr_iconst 293 C (v := 2) dL_law_292 (by decide) rfl ?_
  refine xr_iadd 294 C dL_law_293 rfl ?_
  obtain ⟨x294, h294, hf⟩ := mm_bd_e hf
  refine xr_sld 295 C S h294 dL_law_294 rfl ?_
  obtain ⟨u295, g295, hf⟩ := mm_bd_e hf
  obtain ⟨hc18, hf⟩ := mm_gd_e hf
  obtain ⟨x295, M295, h295, hf⟩ := mm_b2_e hf
  refine xr_callV 298 C [mm_i x289, mm_i x294] cm_L_31 (fun l G cy => c_X9_most l G cy h295) g295 rfl rfl ⟨⟨Nat.le_of_ble_eq_true rfl, Nat.le_of_ble_eq_true rfl⟩, (by omega), (by omega)⟩ (Nat.le_of_ble_eq_true rfl) dL_law_295 rfl ?_
  refine xr_aload_n 299 2 C dL_law_298 rfl rfl rfl ?_
  refine xr_aload_n 300 0 C dL_law_299 rfl rfl rfl ?_
  refine xr_iload_n 301 3 C dL_law_300 rfl rfl rfl ?_
  refine xr_iconst 302 C (v := 1) dL_law_301 (by decide) rfl ?_
  refine xr_iadd 303 C dL_law_302 rfl ?_
  obtain ⟨x303, h303, hf⟩ := mm_bd_e hf
  refine xr_sld 304 C S h303 dL_law_303 rfl ?_
  refine xr_aload_n 305 0 C dL_law_304 rfl rfl rfl ?_
  refine xr_iload_n 306 3 C dL_law_305 rfl rfl rfl ?_
  refine xr_iconst 307 C (v := 2) dL_law_306 (by decide) rfl ?_
  refine xr_iadd 308 C dL_law_307 rfl ?_
  obtain ⟨x308, h308, hf⟩ := mm_bd_e hf
  refine xr_sld 309 C S h308 dL_law_308 rfl ?_
  obtain ⟨u309, g309, hf⟩ := mm_bd_e hf
  obtain ⟨x309, M309, h309, hf⟩ := mm_b2_e hf
  refine xr_callV 312 C [mm_i x303, mm_i x308] cm_L_34 (fun l G cy => c_X10_most l G cy h309) g309 rfl rfl ⟨⟨Nat.le_of_ble_eq_true rfl, Nat.le_of_ble_eq_true rfl⟩, (by omega), (by omega)⟩ (Nat.le_of_ble_eq_true rfl) dL_law_309 rfl ?_
  refine xr_icmp_eq 1117 315 C dL_law_312 (by decide) rfl (fun hc => ?_) (fun hc => ?_)
  · replace hf := (if_pos hc).symm.trans hf
    refine xr_widen (k := (63 + 41 * c18 + 38)) (n := (52194 + 7185 * c18 + 6171)) (by omega) (by omega) ?_
    exact w_L_law_1117 C S hf ko
  · replace hf := (if_neg hc).symm.trans hf
    refine xr_sub [] (lv2 := []) rfl ?_
    obtain ⟨hcx, hf⟩ := mm_gd_e hf
    obtain ⟨z, hf2, rfl⟩ := mm_mp_e hf
    clear hf
    have hf := hf2
    clear hf2
    refine xr_widen (k := 21055) (n := 3730914) (by omega) (by omega) ?_
    exact w_L_law_315 C S hf ko
noncomputable def f_L_law_348 (sc : Option Nat) (xs : Nat → Int32) (L : Nat) (M : mm_M) : Option (Int32) :=
  some 0
set_option maxRecDepth 20000 in
theorem w_L_law_348 {g : mm_c} {nm : String} {sc : Option Nat} {xs : Nat → Int32} {L : Nat} (C : mm_ok g cL_law "LessonCardsLaw" (some .boolean) nm 4 11 398 600000 7302250) (S : mm_law g sc L xs) {M : mm_M} {res : Int32} (hf : f_L_law_348 sc xs L M = some res) (ko : (fun z : Int32 => z = 1) res) : mm_X g 21055 3730914 M 348 [] [] := by
  unfold f_L_law_348 at hf
  refine xr_iconst 349 C (v := 0) dL_law_348 (by decide) rfl ?_
  obtain rfl := Option.some.inj hf
  exact absurd ko (by decide)
noncomputable def f_L_law_317 (sc : Option Nat) (xs : Nat → Int32) (L : Nat) (M : mm_M) (c18 : Nat) (v1 : Option Nat) (v2 : Option Nat) (v3 : Int32) : Option ((Nat × mm_M × Int32) ⊕ (Int32)) :=
  (mm_sc xs L (v3 + 1)).bind fun x322 =>
  (mm_sc xs L (v3 + 2)).bind fun x327 =>
  (mm_rc M v1 10).bind fun u328 =>
  mm_gd (c18 < 512) <|
  mm_b2 (f_X9_day M v1 x322 x327) fun x328 M328 =>
  (mm_sc xs L (v3 + 1)).bind fun x336 =>
  (mm_sc xs L (v3 + 2)).bind fun x341 =>
  (mm_rc M328 v2 11).bind fun u342 =>
  mm_b2 (f_X10_day M328 v2 x336 x341) fun x342 M342 =>
  if x328 = x342 then f_L_law_1117 sc xs L M342 c18 v1 v2 v3 else mm_gd (c18 ≤ 512) (mm_mp (f_L_law_348 sc xs L M342))
set_option maxRecDepth 20000 in
theorem w_L_law_317 {g : mm_c} {nm : String} {sc : Option Nat} {xs : Nat → Int32} {L : Nat} (C : mm_ok g cL_law "LessonCardsLaw" (some .boolean) nm 4 11 398 600000 7302250) (S : mm_law g sc L xs) {M : mm_M} {c18 : Nat} {v1 : Option Nat} {v2 : Option Nat} {v3 : Int32} {res : (Nat × mm_M × Int32) ⊕ (Int32)} (hf : f_L_law_317 sc xs L M c18 v1 v2 v3 = some res) (ko : (mm_o (h_L_law_18 g sc v1 v2) (fun z : Int32 => z = 1)) res) : mm_X g (63 + 41 * c18) (52194 + 7185 * c18) M 317 [(0, mm_r sc), (1, mm_r v1), (2, mm_r v2), (3, mm_i v3)] [] := by
  unfold f_L_law_317 at hf
  refine xr_aload_n 318 1 C dL_law_317 rfl rfl rfl ?_
  refine xr_aload_n 319 0 C dL_law_318 rfl rfl rfl ?_
  refine xr_iload_n 320 3 C dL_law_319 rfl rfl rfl ?_
  refine xr_iconst 321 C (v := 1) dL_law_320 (by decide) rfl ?_
  refine xr_iadd 322 C dL_law_321 rfl ?_
  obtain ⟨x322, h322, hf⟩ := mm_bd_e hf
  refine xr_sld 323 C S h322 dL_law_322 rfl ?_
  refine xr_aload_n 324 0 C dL_law_323 rfl rfl rfl ?_
  refine xr_iload_n 325 3 C dL_law_324 rfl rfl rfl ?_
  refine xr_iconst 326 C (v := 2) dL_law_325 (by decide) rfl ?_
  refine xr_iadd 327 C dL_law_326 rfl ?_
  obtain ⟨x327, h327, hf⟩ := mm_bd_e hf
  refine xr_sld 328 C S h327 dL_law_327 rfl ?_
  obtain ⟨u328, g328, hf⟩ := mm_bd_e hf
  obtain ⟨hc18, hf⟩ := mm_gd_e hf
  obtain ⟨x328, M328, h328, hf⟩ := mm_b2_e hf
  refine xr_callV 331 C [mm_i x322, mm_i x327] cm_L_35 (fun l G cy => c_X9_day l G cy h328) g328 rfl rfl ⟨⟨Nat.le_of_ble_eq_true rfl, Nat.le_of_ble_eq_true rfl⟩, (by omega), (by omega)⟩ (Nat.le_of_ble_eq_true rfl) dL_law_328 rfl ?_
  refine xr_aload_n 332 2 C dL_law_331 rfl rfl rfl ?_
  refine xr_aload_n 333 0 C dL_law_332 rfl rfl rfl ?_
  refine xr_iload_n 334 3 C dL_law_333 rfl rfl rfl ?_
  refine xr_iconst 335 C (v := 1) dL_law_334 (by decide) rfl ?_
  refine xr_iadd 336 C dL_law_335 rfl ?_
  obtain ⟨x336, h336, hf⟩ := mm_bd_e hf
  refine xr_sld 337 C S h336 dL_law_336 rfl ?_
  refine xr_aload_n 338 0 C dL_law_337 rfl rfl rfl ?_
  refine xr_iload_n 339 3 C dL_law_338 rfl rfl rfl ?_
  refine xr_iconst 340 C (v := 2) dL_law_339 (by decide) rfl ?_
  refine xr_iadd 341 C dL_law_340 rfl ?_
  obtain ⟨x341, h341, hf⟩ := mm_bd_e hf
  refine xr_sld 342 C S h341 dL_law_341 rfl ?_
  obtain ⟨u342, g342, hf⟩ := mm_bd_e hf
  obtain ⟨x342, M342, h342, hf⟩ := mm_b2_e hf
  refine xr_callV 345 C [mm_i x336, mm_i x341] cm_L_38 (fun l G cy => c_X10_day l G cy h342) g342 rfl rfl ⟨⟨Nat.le_of_ble_eq_true rfl, Nat.le_of_ble_eq_true rfl⟩, (by omega), (by omega)⟩ (Nat.le_of_ble_eq_true rfl) dL_law_342 rfl ?_
  refine xr_icmp_eq 1117 348 C dL_law_345 (by decide) rfl (fun hc => ?_) (fun hc => ?_)
  · replace hf := (if_pos hc).symm.trans hf
    refine xr_widen (k := (63 + 41 * c18 + 38)) (n := (52194 + 7185 * c18 + 6171)) (by omega) (by omega) ?_
    exact w_L_law_1117 C S hf ko
  · replace hf := (if_neg hc).symm.trans hf
    refine xr_sub [] (lv2 := []) rfl ?_
    obtain ⟨hcx, hf⟩ := mm_gd_e hf
    obtain ⟨z, hf2, rfl⟩ := mm_mp_e hf
    clear hf
    have hf := hf2
    clear hf2
    refine xr_widen (k := 21055) (n := 3730914) (by omega) (by omega) ?_
    exact w_L_law_348 C S hf ko
noncomputable def f_L_law_371 (sc : Option Nat) (xs : Nat → Int32) (L : Nat) (M : mm_M) : Option (Int32) :=
  some 0
set_option maxRecDepth 20000 in
theorem w_L_law_371 {g : mm_c} {nm : String} {sc : Option Nat} {xs : Nat → Int32} {L : Nat} (C : mm_ok g cL_law "LessonCardsLaw" (some .boolean) nm 4 11 398 600000 7302250) (S : mm_law g sc L xs) {M : mm_M} {res : Int32} (hf : f_L_law_371 sc xs L M = some res) (ko : (fun z : Int32 => z = 1) res) : mm_X g 21055 3730914 M 371 [] [] := by
  unfold f_L_law_371 at hf
  refine xr_iconst 372 C (v := 0) dL_law_371 (by decide) rfl ?_
  obtain rfl := Option.some.inj hf
  exact absurd ko (by decide)
noncomputable def f_L_law_350 (sc : Option Nat) (xs : Nat → Int32) (L : Nat) (M : mm_M) (c18 : Nat) (v1 : Option Nat) (v2 : Option Nat) (v3 : Int32) : Option ((Nat × mm_M × Int32) ⊕ (Int32)) :=
  (mm_sc xs L (v3 + 1)).bind fun x355 =>
  (mm_rc M v1 10).bind fun u356 =>
  mm_gd (c18 < 512) <|
  mm_b2 (f_X9_start M v1 x355) fun x356 M356 =>
  (mm_sc xs L (v3 + 1)).bind fun x364 =>
  (mm_rc M356 v2 11).bind fun u365 =>
  mm_b2 (f_X10_start M356 v2 x364) fun x365 M365 =>
  if x356 = x365 then f_L_law_1117 sc xs L M365 c18 v1 v2 v3 else mm_gd (c18 ≤ 512) (mm_mp (f_L_law_371 sc xs L M365))
set_option maxRecDepth 20000 in
theorem w_L_law_350 {g : mm_c} {nm : String} {sc : Option Nat} {xs : Nat → Int32} {L : Nat} (C : mm_ok g cL_law "LessonCardsLaw" (some .boolean) nm 4 11 398 600000 7302250) (S : mm_law g sc L xs) {M : mm_M} {c18 : Nat} {v1 : Option Nat} {v2 : Option Nat} {v3 : Int32} {res : (Nat × mm_M × Int32) ⊕ (Int32)} (hf : f_L_law_350 sc xs L M c18 v1 v2 v3 = some res) (ko : (mm_o (h_L_law_18 g sc v1 v2) (fun z : Int32 => z = 1)) res) : mm_X g (63 + 41 * c18) (52194 + 7185 * c18) M 350 [(0, mm_r sc), (1, mm_r v1), (2, mm_r v2), (3, mm_i v3)] [] := by
  unfold f_L_law_350 at hf
  refine xr_aload_n 351 1 C dL_law_350 rfl rfl rfl ?_
  refine xr_aload_n 352 0 C dL_law_351 rfl rfl rfl ?_
  refine xr_iload_n 353 3 C dL_law_352 rfl rfl rfl ?_
  refine xr_iconst 354 C (v := 1) dL_law_353 (by decide) rfl ?_
  refine xr_iadd 355 C dL_law_354 rfl ?_
  obtain ⟨x355, h355, hf⟩ := mm_bd_e hf
  refine xr_sld 356 C S h355 dL_law_355 rfl ?_
  obtain ⟨u356, g356, hf⟩ := mm_bd_e hf
  obtain ⟨hc18, hf⟩ := mm_gd_e hf
  obtain ⟨x356, M356, h356, hf⟩ := mm_b2_e hf
  refine xr_callV 359 C [mm_i x355] cm_L_39 (fun l G cy => c_X9_start l G cy h356) g356 rfl rfl ⟨⟨Nat.le_of_ble_eq_true rfl, Nat.le_of_ble_eq_true rfl⟩, (by omega), (by omega)⟩ (Nat.le_of_ble_eq_true rfl) dL_law_356 rfl ?_
  refine xr_aload_n 360 2 C dL_law_359 rfl rfl rfl ?_
  refine xr_aload_n 361 0 C dL_law_360 rfl rfl rfl ?_
  refine xr_iload_n 362 3 C dL_law_361 rfl rfl rfl ?_
  refine xr_iconst 363 C (v := 1) dL_law_362 (by decide) rfl ?_
  refine xr_iadd 364 C dL_law_363 rfl ?_
  obtain ⟨x364, h364, hf⟩ := mm_bd_e hf
  refine xr_sld 365 C S h364 dL_law_364 rfl ?_
  obtain ⟨u365, g365, hf⟩ := mm_bd_e hf
  obtain ⟨x365, M365, h365, hf⟩ := mm_b2_e hf
  refine xr_callV 368 C [mm_i x364] cm_L_42 (fun l G cy => c_X10_start l G cy h365) g365 rfl rfl ⟨⟨Nat.le_of_ble_eq_true rfl, Nat.le_of_ble_eq_true rfl⟩, (by omega), (by omega)⟩ (Nat.le_of_ble_eq_true rfl) dL_law_365 rfl ?_
  refine xr_icmp_eq 1117 371 C dL_law_368 (by decide) rfl (fun hc => ?_) (fun hc => ?_)
  · replace hf := (if_pos hc).symm.trans hf
    refine xr_widen (k := (63 + 41 * c18 + 38)) (n := (52194 + 7185 * c18 + 6171)) (by omega) (by omega) ?_
    exact w_L_law_1117 C S hf ko
  · replace hf := (if_neg hc).symm.trans hf
    refine xr_sub [] (lv2 := []) rfl ?_
    obtain ⟨hcx, hf⟩ := mm_gd_e hf
    obtain ⟨z, hf2, rfl⟩ := mm_mp_e hf
    clear hf
    have hf := hf2
    clear hf2
    refine xr_widen (k := 21055) (n := 3730914) (by omega) (by omega) ?_
    exact w_L_law_371 C S hf ko
noncomputable def f_L_law_394 (sc : Option Nat) (xs : Nat → Int32) (L : Nat) (M : mm_M) : Option (Int32) :=
  some 0
set_option maxRecDepth 20000 in
theorem w_L_law_394 {g : mm_c} {nm : String} {sc : Option Nat} {xs : Nat → Int32} {L : Nat} (C : mm_ok g cL_law "LessonCardsLaw" (some .boolean) nm 4 11 398 600000 7302250) (S : mm_law g sc L xs) {M : mm_M} {res : Int32} (hf : f_L_law_394 sc xs L M = some res) (ko : (fun z : Int32 => z = 1) res) : mm_X g 21055 3730914 M 394 [] [] := by
  unfold f_L_law_394 at hf
  refine xr_iconst 395 C (v := 0) dL_law_394 (by decide) rfl ?_
  obtain rfl := Option.some.inj hf
  exact absurd ko (by decide)
noncomputable def f_L_law_373 (sc : Option Nat) (xs : Nat → Int32) (L : Nat) (M : mm_M) (c18 : Nat) (v1 : Option Nat) (v2 : Option Nat) (v3 : Int32) : Option ((Nat × mm_M × Int32) ⊕ (Int32)) :=
  (mm_sc xs L (v3 + 1)).bind fun x378 =>
  (mm_rc M v1 10).bind fun u379 =>
  mm_gd (c18 < 512) <|
  (f_X9_next M v1 x378).bind fun x379 =>
  (mm_sc xs L (v3 + 1)).bind fun x387 =>
  (mm_rc M v2 11).bind fun u388 =>
  (f_X10_next M v2 x387).bind fun x388 =>
  if x379 = x388 then f_L_law_1117 sc xs L M c18 v1 v2 v3 else mm_gd (c18 ≤ 512) (mm_mp (f_L_law_394 sc xs L M))
set_option maxRecDepth 20000 in
theorem w_L_law_373 {g : mm_c} {nm : String} {sc : Option Nat} {xs : Nat → Int32} {L : Nat} (C : mm_ok g cL_law "LessonCardsLaw" (some .boolean) nm 4 11 398 600000 7302250) (S : mm_law g sc L xs) {M : mm_M} {c18 : Nat} {v1 : Option Nat} {v2 : Option Nat} {v3 : Int32} {res : (Nat × mm_M × Int32) ⊕ (Int32)} (hf : f_L_law_373 sc xs L M c18 v1 v2 v3 = some res) (ko : (mm_o (h_L_law_18 g sc v1 v2) (fun z : Int32 => z = 1)) res) : mm_X g (63 + 41 * c18) (52194 + 7185 * c18) M 373 [(0, mm_r sc), (1, mm_r v1), (2, mm_r v2), (3, mm_i v3)] [] := by
  unfold f_L_law_373 at hf
  refine xr_aload_n 374 1 C dL_law_373 rfl rfl rfl ?_
  refine xr_aload_n 375 0 C dL_law_374 rfl rfl rfl ?_
  refine xr_iload_n 376 3 C dL_law_375 rfl rfl rfl ?_
  refine xr_iconst 377 C (v := 1) dL_law_376 (by decide) rfl ?_
  refine xr_iadd 378 C dL_law_377 rfl ?_
  obtain ⟨x378, h378, hf⟩ := mm_bd_e hf
  refine xr_sld 379 C S h378 dL_law_378 rfl ?_
  obtain ⟨u379, g379, hf⟩ := mm_bd_e hf
  obtain ⟨hc18, hf⟩ := mm_gd_e hf
  obtain ⟨x379, h379, hf⟩ := mm_bd_e hf
  refine xr_callV 382 C [mm_i x378] cm_L_43 (fun l G cy => c_X9_next l G cy h379) g379 rfl rfl ⟨⟨Nat.le_of_ble_eq_true rfl, Nat.le_of_ble_eq_true rfl⟩, (by omega), (by omega)⟩ (Nat.le_of_ble_eq_true rfl) dL_law_379 rfl ?_
  refine xr_aload_n 383 2 C dL_law_382 rfl rfl rfl ?_
  refine xr_aload_n 384 0 C dL_law_383 rfl rfl rfl ?_
  refine xr_iload_n 385 3 C dL_law_384 rfl rfl rfl ?_
  refine xr_iconst 386 C (v := 1) dL_law_385 (by decide) rfl ?_
  refine xr_iadd 387 C dL_law_386 rfl ?_
  obtain ⟨x387, h387, hf⟩ := mm_bd_e hf
  refine xr_sld 388 C S h387 dL_law_387 rfl ?_
  obtain ⟨u388, g388, hf⟩ := mm_bd_e hf
  obtain ⟨x388, h388, hf⟩ := mm_bd_e hf
  refine xr_callV 391 C [mm_i x387] cm_L_46 (fun l G cy => c_X10_next l G cy h388) g388 rfl rfl ⟨⟨Nat.le_of_ble_eq_true rfl, Nat.le_of_ble_eq_true rfl⟩, (by omega), (by omega)⟩ (Nat.le_of_ble_eq_true rfl) dL_law_388 rfl ?_
  refine xr_icmp_eq 1117 394 C dL_law_391 (by decide) rfl (fun hc => ?_) (fun hc => ?_)
  · replace hf := (if_pos hc).symm.trans hf
    refine xr_widen (k := (63 + 41 * c18 + 38)) (n := (52194 + 7185 * c18 + 6171)) (by omega) (by omega) ?_
    exact w_L_law_1117 C S hf ko
  · replace hf := (if_neg hc).symm.trans hf
    refine xr_sub [] (lv2 := []) rfl ?_
    obtain ⟨hcx, hf⟩ := mm_gd_e hf
    obtain ⟨z, hf2, rfl⟩ := mm_mp_e hf
    clear hf
    have hf := hf2
    clear hf2
    refine xr_widen (k := 21055) (n := 3730914) (by omega) (by omega) ?_
    exact w_L_law_394 C S hf ko
noncomputable def f_L_law_427 (sc : Option Nat) (xs : Nat → Int32) (L : Nat) (M : mm_M) : Option (Int32) :=
  some 0
set_option maxRecDepth 20000 in
theorem w_L_law_427 {g : mm_c} {nm : String} {sc : Option Nat} {xs : Nat → Int32} {L : Nat} (C : mm_ok g cL_law "LessonCardsLaw" (some .boolean) nm 4 11 398 600000 7302250) (S : mm_law g sc L xs) {M : mm_M} {res : Int32} (hf : f_L_law_427 sc xs L M = some res) (ko : (fun z : Int32 => z = 1) res) : mm_X g 21055 3730914 M 427 [] [] := by
  unfold f_L_law_427 at hf
  refine xr_iconst 428 C (v := 0) dL_law_427 (by decide) rfl ?_
  obtain rfl := Option.some.inj hf
  exact absurd ko (by decide)
noncomputable def f_L_law_396 (sc : Option Nat) (xs : Nat → Int32) (L : Nat) (M : mm_M) (c18 : Nat) (v1 : Option Nat) (v2 : Option Nat) (v3 : Int32) : Option ((Nat × mm_M × Int32) ⊕ (Int32)) :=
  (mm_sc xs L (v3 + 1)).bind fun x401 =>
  (mm_sc xs L (v3 + 2)).bind fun x406 =>
  (mm_rc M v1 10).bind fun u407 =>
  mm_gd (c18 < 512) <|
  mm_b2 (f_X9_answer M v1 x401 x406) fun x407 M407 =>
  (mm_sc xs L (v3 + 1)).bind fun x415 =>
  (mm_sc xs L (v3 + 2)).bind fun x420 =>
  (mm_rc M407 v2 11).bind fun u421 =>
  mm_b2 (f_X10_answer M407 v2 x415 x420) fun x421 M421 =>
  if x407 = x421 then f_L_law_1117 sc xs L M421 c18 v1 v2 v3 else mm_gd (c18 ≤ 512) (mm_mp (f_L_law_427 sc xs L M421))
set_option maxRecDepth 20000 in
theorem w_L_law_396 {g : mm_c} {nm : String} {sc : Option Nat} {xs : Nat → Int32} {L : Nat} (C : mm_ok g cL_law "LessonCardsLaw" (some .boolean) nm 4 11 398 600000 7302250) (S : mm_law g sc L xs) {M : mm_M} {c18 : Nat} {v1 : Option Nat} {v2 : Option Nat} {v3 : Int32} {res : (Nat × mm_M × Int32) ⊕ (Int32)} (hf : f_L_law_396 sc xs L M c18 v1 v2 v3 = some res) (ko : (mm_o (h_L_law_18 g sc v1 v2) (fun z : Int32 => z = 1)) res) : mm_X g (63 + 41 * c18) (52194 + 7185 * c18) M 396 [(0, mm_r sc), (1, mm_r v1), (2, mm_r v2), (3, mm_i v3)] [] := by
  unfold f_L_law_396 at hf
  refine xr_aload_n 397 1 C dL_law_396 rfl rfl rfl ?_
  refine xr_aload_n 398 0 C dL_law_397 rfl rfl rfl ?_
  refine xr_iload_n 399 3 C dL_law_398 rfl rfl rfl ?_
  refine xr_iconst 400 C (v := 1) dL_law_399 (by decide) rfl ?_
  refine xr_iadd 401 C dL_law_400 rfl ?_
  obtain ⟨x401, h401, hf⟩ := mm_bd_e hf
  refine xr_sld 402 C S h401 dL_law_401 rfl ?_
  refine xr_aload_n 403 0 C dL_law_402 rfl rfl rfl ?_
  refine xr_iload_n 404 3 C dL_law_403 rfl rfl rfl ?_
  refine xr_iconst 405 C (v := 2) dL_law_404 (by decide) rfl ?_
  refine xr_iadd 406 C dL_law_405 rfl ?_
  obtain ⟨x406, h406, hf⟩ := mm_bd_e hf
  refine xr_sld 407 C S h406 dL_law_406 rfl ?_
  obtain ⟨u407, g407, hf⟩ := mm_bd_e hf
  obtain ⟨hc18, hf⟩ := mm_gd_e hf
  obtain ⟨x407, M407, h407, hf⟩ := mm_b2_e hf
  refine xr_callV 410 C [mm_i x401, mm_i x406] cm_L_47 (fun l G cy => c_X9_answer l G cy h407) g407 rfl rfl ⟨⟨Nat.le_of_ble_eq_true rfl, Nat.le_of_ble_eq_true rfl⟩, (by omega), (by omega)⟩ (Nat.le_of_ble_eq_true rfl) dL_law_407 rfl ?_
  refine xr_aload_n 411 2 C dL_law_410 rfl rfl rfl ?_
  refine xr_aload_n 412 0 C dL_law_411 rfl rfl rfl ?_
  refine xr_iload_n 413 3 C dL_law_412 rfl rfl rfl ?_
  refine xr_iconst 414 C (v := 1) dL_law_413 (by decide) rfl ?_
  refine xr_iadd 415 C dL_law_414 rfl ?_
  obtain ⟨x415, h415, hf⟩ := mm_bd_e hf
  refine xr_sld 416 C S h415 dL_law_415 rfl ?_
  refine xr_aload_n 417 0 C dL_law_416 rfl rfl rfl ?_
  refine xr_iload_n 418 3 C dL_law_417 rfl rfl rfl ?_
  refine xr_iconst 419 C (v := 2) dL_law_418 (by decide) rfl ?_
  refine xr_iadd 420 C dL_law_419 rfl ?_
  obtain ⟨x420, h420, hf⟩ := mm_bd_e hf
  refine xr_sld 421 C S h420 dL_law_420 rfl ?_
  obtain ⟨u421, g421, hf⟩ := mm_bd_e hf
  obtain ⟨x421, M421, h421, hf⟩ := mm_b2_e hf
  refine xr_callV 424 C [mm_i x415, mm_i x420] cm_L_50 (fun l G cy => c_X10_answer l G cy h421) g421 rfl rfl ⟨⟨Nat.le_of_ble_eq_true rfl, Nat.le_of_ble_eq_true rfl⟩, (by omega), (by omega)⟩ (Nat.le_of_ble_eq_true rfl) dL_law_421 rfl ?_
  refine xr_icmp_eq 1117 427 C dL_law_424 (by decide) rfl (fun hc => ?_) (fun hc => ?_)
  · replace hf := (if_pos hc).symm.trans hf
    refine xr_widen (k := (63 + 41 * c18 + 38)) (n := (52194 + 7185 * c18 + 6171)) (by omega) (by omega) ?_
    exact w_L_law_1117 C S hf ko
  · replace hf := (if_neg hc).symm.trans hf
    refine xr_sub [] (lv2 := []) rfl ?_
    obtain ⟨hcx, hf⟩ := mm_gd_e hf
    obtain ⟨z, hf2, rfl⟩ := mm_mp_e hf
    clear hf
    have hf := hf2
    clear hf2
    refine xr_widen (k := 21055) (n := 3730914) (by omega) (by omega) ?_
    exact w_L_law_427 C S hf ko
noncomputable def f_L_law_450 (sc : Option Nat) (xs : Nat → Int32) (L : Nat) (M : mm_M) : Option (Int32) :=
  some 0
set_option maxRecDepth 20000 in
theorem w_L_law_450 {g : mm_c} {nm : String} {sc : Option Nat} {xs : Nat → Int32} {L : Nat} (C : mm_ok g cL_law "LessonCardsLaw" (some .boolean) nm 4 11 398 600000 7302250) (S : mm_law g sc L xs) {M : mm_M} {res : Int32} (hf : f_L_law_450 sc xs L M = some res) (ko : (fun z : Int32 => z = 1) res) : mm_X g 21055 3730914 M 450 [] [] := by
  unfold f_L_law_450 at hf
  refine xr_iconst 451 C (v := 0) dL_law_450 (by decide) rfl ?_
  obtain rfl := Option.some.inj hf
  exact absurd ko (by decide)
noncomputable def f_L_law_429 (sc : Option Nat) (xs : Nat → Int32) (L : Nat) (M : mm_M) (c18 : Nat) (v1 : Option Nat) (v2 : Option Nat) (v3 : Int32) : Option ((Nat × mm_M × Int32) ⊕ (Int32)) :=
  (mm_sc xs L (v3 + 1)).bind fun x434 =>
  (mm_rc M v1 10).bind fun u435 =>
  mm_gd (c18 < 512) <|
  mm_b2 (f_X9_skip M v1 x434) fun x435 M435 =>
  (mm_sc xs L (v3 + 1)).bind fun x443 =>
  (mm_rc M435 v2 11).bind fun u444 =>
  mm_b2 (f_X10_skip M435 v2 x443) fun x444 M444 =>
  if x435 = x444 then f_L_law_1117 sc xs L M444 c18 v1 v2 v3 else mm_gd (c18 ≤ 512) (mm_mp (f_L_law_450 sc xs L M444))
set_option maxRecDepth 20000 in
theorem w_L_law_429 {g : mm_c} {nm : String} {sc : Option Nat} {xs : Nat → Int32} {L : Nat} (C : mm_ok g cL_law "LessonCardsLaw" (some .boolean) nm 4 11 398 600000 7302250) (S : mm_law g sc L xs) {M : mm_M} {c18 : Nat} {v1 : Option Nat} {v2 : Option Nat} {v3 : Int32} {res : (Nat × mm_M × Int32) ⊕ (Int32)} (hf : f_L_law_429 sc xs L M c18 v1 v2 v3 = some res) (ko : (mm_o (h_L_law_18 g sc v1 v2) (fun z : Int32 => z = 1)) res) : mm_X g (63 + 41 * c18) (52194 + 7185 * c18) M 429 [(0, mm_r sc), (1, mm_r v1), (2, mm_r v2), (3, mm_i v3)] [] := by
  unfold f_L_law_429 at hf
  refine xr_aload_n 430 1 C dL_law_429 rfl rfl rfl ?_
  refine xr_aload_n 431 0 C dL_law_430 rfl rfl rfl ?_
  refine xr_iload_n 432 3 C dL_law_431 rfl rfl rfl ?_
  refine xr_iconst 433 C (v := 1) dL_law_432 (by decide) rfl ?_
  refine xr_iadd 434 C dL_law_433 rfl ?_
  obtain ⟨x434, h434, hf⟩ := mm_bd_e hf
  refine xr_sld 435 C S h434 dL_law_434 rfl ?_
  obtain ⟨u435, g435, hf⟩ := mm_bd_e hf
  obtain ⟨hc18, hf⟩ := mm_gd_e hf
  obtain ⟨x435, M435, h435, hf⟩ := mm_b2_e hf
  refine xr_callV 438 C [mm_i x434] cm_L_51 (fun l G cy => c_X9_skip l G cy h435) g435 rfl rfl ⟨⟨Nat.le_of_ble_eq_true rfl, Nat.le_of_ble_eq_true rfl⟩, (by omega), (by omega)⟩ (Nat.le_of_ble_eq_true rfl) dL_law_435 rfl ?_
  refine xr_aload_n 439 2 C dL_law_438 rfl rfl rfl ?_
  refine xr_aload_n 440 0 C dL_law_439 rfl rfl rfl ?_
  refine xr_iload_n 441 3 C dL_law_440 rfl rfl rfl ?_
  refine xr_iconst 442 C (v := 1) dL_law_441 (by decide) rfl ?_
  refine xr_iadd 443 C dL_law_442 rfl ?_
  obtain ⟨x443, h443, hf⟩ := mm_bd_e hf
  refine xr_sld 444 C S h443 dL_law_443 rfl ?_
  obtain ⟨u444, g444, hf⟩ := mm_bd_e hf
  obtain ⟨x444, M444, h444, hf⟩ := mm_b2_e hf
  refine xr_callV 447 C [mm_i x443] cm_L_54 (fun l G cy => c_X10_skip l G cy h444) g444 rfl rfl ⟨⟨Nat.le_of_ble_eq_true rfl, Nat.le_of_ble_eq_true rfl⟩, (by omega), (by omega)⟩ (Nat.le_of_ble_eq_true rfl) dL_law_444 rfl ?_
  refine xr_icmp_eq 1117 450 C dL_law_447 (by decide) rfl (fun hc => ?_) (fun hc => ?_)
  · replace hf := (if_pos hc).symm.trans hf
    refine xr_widen (k := (63 + 41 * c18 + 38)) (n := (52194 + 7185 * c18 + 6171)) (by omega) (by omega) ?_
    exact w_L_law_1117 C S hf ko
  · replace hf := (if_neg hc).symm.trans hf
    refine xr_sub [] (lv2 := []) rfl ?_
    obtain ⟨hcx, hf⟩ := mm_gd_e hf
    obtain ⟨z, hf2, rfl⟩ := mm_mp_e hf
    clear hf
    have hf := hf2
    clear hf2
    refine xr_widen (k := 21055) (n := 3730914) (by omega) (by omega) ?_
    exact w_L_law_450 C S hf ko
noncomputable def f_L_law_493 (sc : Option Nat) (xs : Nat → Int32) (L : Nat) (M : mm_M) : Option (Int32) :=
  some 0
set_option maxRecDepth 20000 in
theorem w_L_law_493 {g : mm_c} {nm : String} {sc : Option Nat} {xs : Nat → Int32} {L : Nat} (C : mm_ok g cL_law "LessonCardsLaw" (some .boolean) nm 4 11 398 600000 7302250) (S : mm_law g sc L xs) {M : mm_M} {res : Int32} (hf : f_L_law_493 sc xs L M = some res) (ko : (fun z : Int32 => z = 1) res) : mm_X g 21055 3730914 M 493 [] [] := by
  unfold f_L_law_493 at hf
  refine xr_iconst 494 C (v := 0) dL_law_493 (by decide) rfl ?_
  obtain rfl := Option.some.inj hf
  exact absurd ko (by decide)
noncomputable def f_L_law_452 (sc : Option Nat) (xs : Nat → Int32) (L : Nat) (M : mm_M) (c18 : Nat) (v1 : Option Nat) (v2 : Option Nat) (v3 : Int32) : Option ((Nat × mm_M × Int32) ⊕ (Int32)) :=
  (mm_sc xs L (v3 + 1)).bind fun x457 =>
  (mm_sc xs L (v3 + 2)).bind fun x462 =>
  (mm_sc xs L (v3 + 3)).bind fun x467 =>
  (mm_rc M v1 10).bind fun u468 =>
  mm_gd (c18 < 512) <|
  mm_b2 (f_X9_bury M v1 x457 x462 x467) fun x468 M468 =>
  (mm_sc xs L (v3 + 1)).bind fun x476 =>
  (mm_sc xs L (v3 + 2)).bind fun x481 =>
  (mm_sc xs L (v3 + 3)).bind fun x486 =>
  (mm_rc M468 v2 11).bind fun u487 =>
  mm_b2 (f_X10_bury M468 v2 x476 x481 x486) fun x487 M487 =>
  if x468 = x487 then f_L_law_1117 sc xs L M487 c18 v1 v2 v3 else mm_gd (c18 ≤ 512) (mm_mp (f_L_law_493 sc xs L M487))
set_option maxRecDepth 20000 in
theorem w_L_law_452 {g : mm_c} {nm : String} {sc : Option Nat} {xs : Nat → Int32} {L : Nat} (C : mm_ok g cL_law "LessonCardsLaw" (some .boolean) nm 4 11 398 600000 7302250) (S : mm_law g sc L xs) {M : mm_M} {c18 : Nat} {v1 : Option Nat} {v2 : Option Nat} {v3 : Int32} {res : (Nat × mm_M × Int32) ⊕ (Int32)} (hf : f_L_law_452 sc xs L M c18 v1 v2 v3 = some res) (ko : (mm_o (h_L_law_18 g sc v1 v2) (fun z : Int32 => z = 1)) res) : mm_X g (63 + 41 * c18) (52194 + 7185 * c18) M 452 [(0, mm_r sc), (1, mm_r v1), (2, mm_r v2), (3, mm_i v3)] [] := by
  unfold f_L_law_452 at hf
  refine xr_aload_n 453 1 C dL_law_452 rfl rfl rfl ?_
  refine xr_aload_n 454 0 C dL_law_453 rfl rfl rfl ?_
  refine xr_iload_n 455 3 C dL_law_454 rfl rfl rfl ?_
  refine xr_iconst 456 C (v := 1) dL_law_455 (by decide) rfl ?_
  refine xr_iadd 457 C dL_law_456 rfl ?_
  obtain ⟨x457, h457, hf⟩ := mm_bd_e hf
  refine xr_sld 458 C S h457 dL_law_457 rfl ?_
  refine xr_aload_n 459 0 C dL_law_458 rfl rfl rfl ?_
  refine xr_iload_n 460 3 C dL_law_459 rfl rfl rfl ?_
  refine xr_iconst 461 C (v := 2) dL_law_460 (by decide) rfl ?_
  refine xr_iadd 462 C dL_law_461 rfl ?_
  obtain ⟨x462, h462, hf⟩ := mm_bd_e hf
  refine xr_sld 463 C S h462 dL_law_462 rfl ?_
  refine xr_aload_n 464 0 C dL_law_463 rfl rfl rfl ?_
  refine xr_iload_n 465 3 C dL_law_464 rfl rfl rfl ?_
  refine xr_iconst 466 C (v := 3) dL_law_465 (by decide) rfl ?_
  refine xr_iadd 467 C dL_law_466 rfl ?_
  obtain ⟨x467, h467, hf⟩ := mm_bd_e hf
  refine xr_sld 468 C S h467 dL_law_467 rfl ?_
  obtain ⟨u468, g468, hf⟩ := mm_bd_e hf
  obtain ⟨hc18, hf⟩ := mm_gd_e hf
  obtain ⟨x468, M468, h468, hf⟩ := mm_b2_e hf
  refine xr_callV 471 C [mm_i x457, mm_i x462, mm_i x467] cm_L_55 (fun l G cy => c_X9_bury l G cy h468) g468 rfl rfl ⟨⟨Nat.le_of_ble_eq_true rfl, Nat.le_of_ble_eq_true rfl⟩, (by omega), (by omega)⟩ (Nat.le_of_ble_eq_true rfl) dL_law_468 rfl ?_
  refine xr_aload_n 472 2 C dL_law_471 rfl rfl rfl ?_
  refine xr_aload_n 473 0 C dL_law_472 rfl rfl rfl ?_
  refine xr_iload_n 474 3 C dL_law_473 rfl rfl rfl ?_
  refine xr_iconst 475 C (v := 1) dL_law_474 (by decide) rfl ?_
  refine xr_iadd 476 C dL_law_475 rfl ?_
  obtain ⟨x476, h476, hf⟩ := mm_bd_e hf
  refine xr_sld 477 C S h476 dL_law_476 rfl ?_
  refine xr_aload_n 478 0 C dL_law_477 rfl rfl rfl ?_
  refine xr_iload_n 479 3 C dL_law_478 rfl rfl rfl ?_
  refine xr_iconst 480 C (v := 2) dL_law_479 (by decide) rfl ?_
  refine xr_iadd 481 C dL_law_480 rfl ?_
  obtain ⟨x481, h481, hf⟩ := mm_bd_e hf
  refine xr_sld 482 C S h481 dL_law_481 rfl ?_
  refine xr_aload_n 483 0 C dL_law_482 rfl rfl rfl ?_
  refine xr_iload_n 484 3 C dL_law_483 rfl rfl rfl ?_
  refine xr_iconst 485 C (v := 3) dL_law_484 (by decide) rfl ?_
  refine xr_iadd 486 C dL_law_485 rfl ?_
  obtain ⟨x486, h486, hf⟩ := mm_bd_e hf
  refine xr_sld 487 C S h486 dL_law_486 rfl ?_
  obtain ⟨u487, g487, hf⟩ := mm_bd_e hf
  obtain ⟨x487, M487, h487, hf⟩ := mm_b2_e hf
  refine xr_callV 490 C [mm_i x476, mm_i x481, mm_i x486] cm_L_59 (fun l G cy => c_X10_bury l G cy h487) g487 rfl rfl ⟨⟨Nat.le_of_ble_eq_true rfl, Nat.le_of_ble_eq_true rfl⟩, (by omega), (by omega)⟩ (Nat.le_of_ble_eq_true rfl) dL_law_487 rfl ?_
  refine xr_icmp_eq 1117 493 C dL_law_490 (by decide) rfl (fun hc => ?_) (fun hc => ?_)
  · replace hf := (if_pos hc).symm.trans hf
    refine xr_widen (k := (63 + 41 * c18 + 38)) (n := (52194 + 7185 * c18 + 6171)) (by omega) (by omega) ?_
    exact w_L_law_1117 C S hf ko
  · replace hf := (if_neg hc).symm.trans hf
    refine xr_sub [] (lv2 := []) rfl ?_
    obtain ⟨hcx, hf⟩ := mm_gd_e hf
    obtain ⟨z, hf2, rfl⟩ := mm_mp_e hf
    clear hf
    have hf := hf2
    clear hf2
    refine xr_widen (k := 21055) (n := 3730914) (by omega) (by omega) ?_
    exact w_L_law_493 C S hf ko
noncomputable def f_L_law_506 (sc : Option Nat) (xs : Nat → Int32) (L : Nat) (M : mm_M) : Option (Int32) :=
  some 0
set_option maxRecDepth 20000 in
theorem w_L_law_506 {g : mm_c} {nm : String} {sc : Option Nat} {xs : Nat → Int32} {L : Nat} (C : mm_ok g cL_law "LessonCardsLaw" (some .boolean) nm 4 11 398 600000 7302250) (S : mm_law g sc L xs) {M : mm_M} {res : Int32} (hf : f_L_law_506 sc xs L M = some res) (ko : (fun z : Int32 => z = 1) res) : mm_X g 21055 3730914 M 506 [] [] := by
  unfold f_L_law_506 at hf
  refine xr_iconst 507 C (v := 0) dL_law_506 (by decide) rfl ?_
  obtain rfl := Option.some.inj hf
  exact absurd ko (by decide)
noncomputable def f_L_law_495 (sc : Option Nat) (xs : Nat → Int32) (L : Nat) (M : mm_M) (c18 : Nat) (v1 : Option Nat) (v2 : Option Nat) (v3 : Int32) : Option ((Nat × mm_M × Int32) ⊕ (Int32)) :=
  (mm_rc M v1 10).bind fun u496 =>
  mm_gd (c18 < 512) <|
  mm_b2 (f_X9_undo M v1) fun x496 M496 =>
  (mm_rc M496 v2 11).bind fun u500 =>
  mm_b2 (f_X10_undo M496 v2) fun x500 M500 =>
  if x496 = x500 then f_L_law_1117 sc xs L M500 c18 v1 v2 v3 else mm_gd (c18 ≤ 512) (mm_mp (f_L_law_506 sc xs L M500))
set_option maxRecDepth 20000 in
theorem w_L_law_495 {g : mm_c} {nm : String} {sc : Option Nat} {xs : Nat → Int32} {L : Nat} (C : mm_ok g cL_law "LessonCardsLaw" (some .boolean) nm 4 11 398 600000 7302250) (S : mm_law g sc L xs) {M : mm_M} {c18 : Nat} {v1 : Option Nat} {v2 : Option Nat} {v3 : Int32} {res : (Nat × mm_M × Int32) ⊕ (Int32)} (hf : f_L_law_495 sc xs L M c18 v1 v2 v3 = some res) (ko : (mm_o (h_L_law_18 g sc v1 v2) (fun z : Int32 => z = 1)) res) : mm_X g (63 + 41 * c18) (52194 + 7185 * c18) M 495 [(0, mm_r sc), (1, mm_r v1), (2, mm_r v2), (3, mm_i v3)] [] := by
  unfold f_L_law_495 at hf
  refine xr_aload_n 496 1 C dL_law_495 rfl rfl rfl ?_
  obtain ⟨u496, g496, hf⟩ := mm_bd_e hf
  obtain ⟨hc18, hf⟩ := mm_gd_e hf
  obtain ⟨x496, M496, h496, hf⟩ := mm_b2_e hf
  refine xr_callV 499 C [] cm_L_60 (fun l G cy => c_X9_undo l G cy h496) g496 rfl rfl ⟨⟨Nat.le_of_ble_eq_true rfl, Nat.le_of_ble_eq_true rfl⟩, (by omega), (by omega)⟩ (Nat.le_of_ble_eq_true rfl) dL_law_496 rfl ?_
  refine xr_aload_n 500 2 C dL_law_499 rfl rfl rfl ?_
  obtain ⟨u500, g500, hf⟩ := mm_bd_e hf
  obtain ⟨x500, M500, h500, hf⟩ := mm_b2_e hf
  refine xr_callV 503 C [] cm_L_64 (fun l G cy => c_X10_undo l G cy h500) g500 rfl rfl ⟨⟨Nat.le_of_ble_eq_true rfl, Nat.le_of_ble_eq_true rfl⟩, (by omega), (by omega)⟩ (Nat.le_of_ble_eq_true rfl) dL_law_500 rfl ?_
  refine xr_icmp_eq 1117 506 C dL_law_503 (by decide) rfl (fun hc => ?_) (fun hc => ?_)
  · replace hf := (if_pos hc).symm.trans hf
    refine xr_widen (k := (63 + 41 * c18 + 38)) (n := (52194 + 7185 * c18 + 6171)) (by omega) (by omega) ?_
    exact w_L_law_1117 C S hf ko
  · replace hf := (if_neg hc).symm.trans hf
    refine xr_sub [] (lv2 := []) rfl ?_
    obtain ⟨hcx, hf⟩ := mm_gd_e hf
    obtain ⟨z, hf2, rfl⟩ := mm_mp_e hf
    clear hf
    have hf := hf2
    clear hf2
    refine xr_widen (k := 21055) (n := 3730914) (by omega) (by omega) ?_
    exact w_L_law_506 C S hf ko
noncomputable def f_L_law_559 (sc : Option Nat) (xs : Nat → Int32) (L : Nat) (M : mm_M) : Option (Int32) :=
  some 0
set_option maxRecDepth 20000 in
theorem w_L_law_559 {g : mm_c} {nm : String} {sc : Option Nat} {xs : Nat → Int32} {L : Nat} (C : mm_ok g cL_law "LessonCardsLaw" (some .boolean) nm 4 11 398 600000 7302250) (S : mm_law g sc L xs) {M : mm_M} {res : Int32} (hf : f_L_law_559 sc xs L M = some res) (ko : (fun z : Int32 => z = 1) res) : mm_X g 21055 3730914 M 559 [] [] := by
  unfold f_L_law_559 at hf
  refine xr_iconst 560 C (v := 0) dL_law_559 (by decide) rfl ?_
  obtain rfl := Option.some.inj hf
  exact absurd ko (by decide)
noncomputable def f_L_law_508 (sc : Option Nat) (xs : Nat → Int32) (L : Nat) (M : mm_M) (c18 : Nat) (v1 : Option Nat) (v2 : Option Nat) (v3 : Int32) : Option ((Nat × mm_M × Int32) ⊕ (Int32)) :=
  (mm_sc xs L (v3 + 1)).bind fun x513 =>
  (mm_sc xs L (v3 + 2)).bind fun x518 =>
  (mm_sc xs L (v3 + 3)).bind fun x523 =>
  (mm_sc xs L (v3 + 4)).bind fun x528 =>
  (mm_rc M v1 10).bind fun u529 =>
  mm_gd (c18 < 512) <|
  (f_X9_memory M v1 x513 x518 x523 x528).bind fun x529 =>
  (mm_sc xs L (v3 + 1)).bind fun x537 =>
  (mm_sc xs L (v3 + 2)).bind fun x542 =>
  (mm_sc xs L (v3 + 3)).bind fun x547 =>
  (mm_sc xs L (v3 + 4)).bind fun x552 =>
  (mm_rc M v2 11).bind fun u553 =>
  mm_b2 (f_X10_memory M v2 x537 x542 x547 x552) fun x553 M553 =>
  if x529 = x553 then f_L_law_1117 sc xs L M553 c18 v1 v2 v3 else mm_gd (c18 ≤ 512) (mm_mp (f_L_law_559 sc xs L M553))
set_option maxRecDepth 20000 in
theorem w_L_law_508 {g : mm_c} {nm : String} {sc : Option Nat} {xs : Nat → Int32} {L : Nat} (C : mm_ok g cL_law "LessonCardsLaw" (some .boolean) nm 4 11 398 600000 7302250) (S : mm_law g sc L xs) {M : mm_M} {c18 : Nat} {v1 : Option Nat} {v2 : Option Nat} {v3 : Int32} {res : (Nat × mm_M × Int32) ⊕ (Int32)} (hf : f_L_law_508 sc xs L M c18 v1 v2 v3 = some res) (ko : (mm_o (h_L_law_18 g sc v1 v2) (fun z : Int32 => z = 1)) res) : mm_X g (63 + 41 * c18) (52194 + 7185 * c18) M 508 [(0, mm_r sc), (1, mm_r v1), (2, mm_r v2), (3, mm_i v3)] [] := by
  unfold f_L_law_508 at hf
  refine xr_aload_n 509 1 C dL_law_508 rfl rfl rfl ?_
  refine xr_aload_n 510 0 C dL_law_509 rfl rfl rfl ?_
  refine xr_iload_n 511 3 C dL_law_510 rfl rfl rfl ?_
  refine xr_iconst 512 C (v := 1) dL_law_511 (by decide) rfl ?_
  refine xr_iadd 513 C dL_law_512 rfl ?_
  obtain ⟨x513, h513, hf⟩ := mm_bd_e hf
  refine xr_sld 514 C S h513 dL_law_513 rfl ?_
  refine xr_aload_n 515 0 C dL_law_514 rfl rfl rfl ?_
  refine xr_iload_n 516 3 C dL_law_515 rfl rfl rfl ?_
  refine xr_iconst 517 C (v := 2) dL_law_516 (by decide) rfl ?_
  refine xr_iadd 518 C dL_law_517 rfl ?_
  obtain ⟨x518, h518, hf⟩ := mm_bd_e hf
  refine xr_sld 519 C S h518 dL_law_518 rfl ?_
  refine xr_aload_n 520 0 C dL_law_519 rfl rfl rfl ?_
  refine xr_iload_n 521 3 C dL_law_520 rfl rfl rfl ?_
  refine xr_iconst 522 C (v := 3) dL_law_521 (by decide) rfl ?_
  refine xr_iadd 523 C dL_law_522 rfl ?_
  obtain ⟨x523, h523, hf⟩ := mm_bd_e hf
  refine xr_sld 524 C S h523 dL_law_523 rfl ?_
  refine xr_aload_n 525 0 C dL_law_524 rfl rfl rfl ?_
  refine xr_iload_n 526 3 C dL_law_525 rfl rfl rfl ?_
  refine xr_iconst 527 C (v := 4) dL_law_526 (by decide) rfl ?_
  refine xr_iadd 528 C dL_law_527 rfl ?_
  obtain ⟨x528, h528, hf⟩ := mm_bd_e hf
  refine xr_sld 529 C S h528 dL_law_528 rfl ?_
  obtain ⟨u529, g529, hf⟩ := mm_bd_e hf
  obtain ⟨hc18, hf⟩ := mm_gd_e hf
  obtain ⟨x529, h529, hf⟩ := mm_bd_e hf
  refine xr_callV 532 C [mm_i x513, mm_i x518, mm_i x523, mm_i x528] cm_L_65 (fun l G cy => c_X9_memory l G cy h529) g529 rfl rfl ⟨⟨Nat.le_of_ble_eq_true rfl, Nat.le_of_ble_eq_true rfl⟩, (by omega), (by omega)⟩ (Nat.le_of_ble_eq_true rfl) dL_law_529 rfl ?_
  refine xr_aload_n 533 2 C dL_law_532 rfl rfl rfl ?_
  refine xr_aload_n 534 0 C dL_law_533 rfl rfl rfl ?_
  refine xr_iload_n 535 3 C dL_law_534 rfl rfl rfl ?_
  refine xr_iconst 536 C (v := 1) dL_law_535 (by decide) rfl ?_
  refine xr_iadd 537 C dL_law_536 rfl ?_
  obtain ⟨x537, h537, hf⟩ := mm_bd_e hf
  refine xr_sld 538 C S h537 dL_law_537 rfl ?_
  refine xr_aload_n 539 0 C dL_law_538 rfl rfl rfl ?_
  refine xr_iload_n 540 3 C dL_law_539 rfl rfl rfl ?_
  refine xr_iconst 541 C (v := 2) dL_law_540 (by decide) rfl ?_
  refine xr_iadd 542 C dL_law_541 rfl ?_
  obtain ⟨x542, h542, hf⟩ := mm_bd_e hf
  refine xr_sld 543 C S h542 dL_law_542 rfl ?_
  refine xr_aload_n 544 0 C dL_law_543 rfl rfl rfl ?_
  refine xr_iload_n 545 3 C dL_law_544 rfl rfl rfl ?_
  refine xr_iconst 546 C (v := 3) dL_law_545 (by decide) rfl ?_
  refine xr_iadd 547 C dL_law_546 rfl ?_
  obtain ⟨x547, h547, hf⟩ := mm_bd_e hf
  refine xr_sld 548 C S h547 dL_law_547 rfl ?_
  refine xr_aload_n 549 0 C dL_law_548 rfl rfl rfl ?_
  refine xr_iload_n 550 3 C dL_law_549 rfl rfl rfl ?_
  refine xr_iconst 551 C (v := 4) dL_law_550 (by decide) rfl ?_
  refine xr_iadd 552 C dL_law_551 rfl ?_
  obtain ⟨x552, h552, hf⟩ := mm_bd_e hf
  refine xr_sld 553 C S h552 dL_law_552 rfl ?_
  obtain ⟨u553, g553, hf⟩ := mm_bd_e hf
  obtain ⟨x553, M553, h553, hf⟩ := mm_b2_e hf
  refine xr_callV 556 C [mm_i x537, mm_i x542, mm_i x547, mm_i x552] cm_L_69 (fun l G cy => c_X10_memory l G cy h553) g553 rfl rfl ⟨⟨Nat.le_of_ble_eq_true rfl, Nat.le_of_ble_eq_true rfl⟩, (by omega), (by omega)⟩ (Nat.le_of_ble_eq_true rfl) dL_law_553 rfl ?_
  refine xr_icmp_eq 1117 559 C dL_law_556 (by decide) rfl (fun hc => ?_) (fun hc => ?_)
  · replace hf := (if_pos hc).symm.trans hf
    refine xr_widen (k := (63 + 41 * c18 + 38)) (n := (52194 + 7185 * c18 + 6171)) (by omega) (by omega) ?_
    exact w_L_law_1117 C S hf ko
  · replace hf := (if_neg hc).symm.trans hf
    refine xr_sub [] (lv2 := []) rfl ?_
    obtain ⟨hcx, hf⟩ := mm_gd_e hf
    obtain ⟨z, hf2, rfl⟩ := mm_mp_e hf
    clear hf
    have hf := hf2
    clear hf2
    refine xr_widen (k := 21055) (n := 3730914) (by omega) (by omega) ?_
    exact w_L_law_559 C S hf ko
noncomputable def f_L_law_602 (sc : Option Nat) (xs : Nat → Int32) (L : Nat) (M : mm_M) : Option (Int32) :=
  some 0
set_option maxRecDepth 20000 in
theorem w_L_law_602 {g : mm_c} {nm : String} {sc : Option Nat} {xs : Nat → Int32} {L : Nat} (C : mm_ok g cL_law "LessonCardsLaw" (some .boolean) nm 4 11 398 600000 7302250) (S : mm_law g sc L xs) {M : mm_M} {res : Int32} (hf : f_L_law_602 sc xs L M = some res) (ko : (fun z : Int32 => z = 1) res) : mm_X g 21055 3730914 M 602 [] [] := by
  unfold f_L_law_602 at hf
  refine xr_iconst 603 C (v := 0) dL_law_602 (by decide) rfl ?_
  obtain rfl := Option.some.inj hf
  exact absurd ko (by decide)
noncomputable def f_L_law_561 (sc : Option Nat) (xs : Nat → Int32) (L : Nat) (M : mm_M) (c18 : Nat) (v1 : Option Nat) (v2 : Option Nat) (v3 : Int32) : Option ((Nat × mm_M × Int32) ⊕ (Int32)) :=
  (mm_sc xs L (v3 + 1)).bind fun x566 =>
  (mm_sc xs L (v3 + 2)).bind fun x571 =>
  (mm_sc xs L (v3 + 3)).bind fun x576 =>
  (mm_rc M v1 10).bind fun u577 =>
  mm_gd (c18 < 512) <|
  (f_X9_when M v1 x566 x571 x576).bind fun x577 =>
  (mm_sc xs L (v3 + 1)).bind fun x585 =>
  (mm_sc xs L (v3 + 2)).bind fun x590 =>
  (mm_sc xs L (v3 + 3)).bind fun x595 =>
  (mm_rc M v2 11).bind fun u596 =>
  mm_b2 (f_X10_when M v2 x585 x590 x595) fun x596 M596 =>
  if x577 = x596 then f_L_law_1117 sc xs L M596 c18 v1 v2 v3 else mm_gd (c18 ≤ 512) (mm_mp (f_L_law_602 sc xs L M596))
set_option maxRecDepth 20000 in
theorem w_L_law_561 {g : mm_c} {nm : String} {sc : Option Nat} {xs : Nat → Int32} {L : Nat} (C : mm_ok g cL_law "LessonCardsLaw" (some .boolean) nm 4 11 398 600000 7302250) (S : mm_law g sc L xs) {M : mm_M} {c18 : Nat} {v1 : Option Nat} {v2 : Option Nat} {v3 : Int32} {res : (Nat × mm_M × Int32) ⊕ (Int32)} (hf : f_L_law_561 sc xs L M c18 v1 v2 v3 = some res) (ko : (mm_o (h_L_law_18 g sc v1 v2) (fun z : Int32 => z = 1)) res) : mm_X g (63 + 41 * c18) (52194 + 7185 * c18) M 561 [(0, mm_r sc), (1, mm_r v1), (2, mm_r v2), (3, mm_i v3)] [] := by
  unfold f_L_law_561 at hf
  refine xr_aload_n 562 1 C dL_law_561 rfl rfl rfl ?_
  refine xr_aload_n 563 0 C dL_law_562 rfl rfl rfl ?_
  refine xr_iload_n 564 3 C dL_law_563 rfl rfl rfl ?_
  refine xr_iconst 565 C (v := 1) dL_law_564 (by decide) rfl ?_
  refine xr_iadd 566 C dL_law_565 rfl ?_
  obtain ⟨x566, h566, hf⟩ := mm_bd_e hf
  refine xr_sld 567 C S h566 dL_law_566 rfl ?_
  refine xr_aload_n 568 0 C dL_law_567 rfl rfl rfl ?_
  refine xr_iload_n 569 3 C dL_law_568 rfl rfl rfl ?_
  refine xr_iconst 570 C (v := 2) dL_law_569 (by decide) rfl ?_
  refine xr_iadd 571 C dL_law_570 rfl ?_
  obtain ⟨x571, h571, hf⟩ := mm_bd_e hf
  refine xr_sld 572 C S h571 dL_law_571 rfl ?_
  refine xr_aload_n 573 0 C dL_law_572 rfl rfl rfl ?_
  refine xr_iload_n 574 3 C dL_law_573 rfl rfl rfl ?_
  refine xr_iconst 575 C (v := 3) dL_law_574 (by decide) rfl ?_
  refine xr_iadd 576 C dL_law_575 rfl ?_
  obtain ⟨x576, h576, hf⟩ := mm_bd_e hf
  refine xr_sld 577 C S h576 dL_law_576 rfl ?_
  obtain ⟨u577, g577, hf⟩ := mm_bd_e hf
  obtain ⟨hc18, hf⟩ := mm_gd_e hf
  obtain ⟨x577, h577, hf⟩ := mm_bd_e hf
  refine xr_callV 580 C [mm_i x566, mm_i x571, mm_i x576] cm_L_70 (fun l G cy => c_X9_when l G cy h577) g577 rfl rfl ⟨⟨Nat.le_of_ble_eq_true rfl, Nat.le_of_ble_eq_true rfl⟩, (by omega), (by omega)⟩ (Nat.le_of_ble_eq_true rfl) dL_law_577 rfl ?_
  refine xr_aload_n 581 2 C dL_law_580 rfl rfl rfl ?_
  refine xr_aload_n 582 0 C dL_law_581 rfl rfl rfl ?_
  refine xr_iload_n 583 3 C dL_law_582 rfl rfl rfl ?_
  refine xr_iconst 584 C (v := 1) dL_law_583 (by decide) rfl ?_
  refine xr_iadd 585 C dL_law_584 rfl ?_
  obtain ⟨x585, h585, hf⟩ := mm_bd_e hf
  refine xr_sld 586 C S h585 dL_law_585 rfl ?_
  refine xr_aload_n 587 0 C dL_law_586 rfl rfl rfl ?_
  refine xr_iload_n 588 3 C dL_law_587 rfl rfl rfl ?_
  refine xr_iconst 589 C (v := 2) dL_law_588 (by decide) rfl ?_
  refine xr_iadd 590 C dL_law_589 rfl ?_
  obtain ⟨x590, h590, hf⟩ := mm_bd_e hf
  refine xr_sld 591 C S h590 dL_law_590 rfl ?_
  refine xr_aload_n 592 0 C dL_law_591 rfl rfl rfl ?_
  refine xr_iload_n 593 3 C dL_law_592 rfl rfl rfl ?_
  refine xr_iconst 594 C (v := 3) dL_law_593 (by decide) rfl ?_
  refine xr_iadd 595 C dL_law_594 rfl ?_
  obtain ⟨x595, h595, hf⟩ := mm_bd_e hf
  refine xr_sld 596 C S h595 dL_law_595 rfl ?_
  obtain ⟨u596, g596, hf⟩ := mm_bd_e hf
  obtain ⟨x596, M596, h596, hf⟩ := mm_b2_e hf
  refine xr_callV 599 C [mm_i x585, mm_i x590, mm_i x595] cm_L_73 (fun l G cy => c_X10_when l G cy h596) g596 rfl rfl ⟨⟨Nat.le_of_ble_eq_true rfl, Nat.le_of_ble_eq_true rfl⟩, (by omega), (by omega)⟩ (Nat.le_of_ble_eq_true rfl) dL_law_596 rfl ?_
  refine xr_icmp_eq 1117 602 C dL_law_599 (by decide) rfl (fun hc => ?_) (fun hc => ?_)
  · replace hf := (if_pos hc).symm.trans hf
    refine xr_widen (k := (63 + 41 * c18 + 38)) (n := (52194 + 7185 * c18 + 6171)) (by omega) (by omega) ?_
    exact w_L_law_1117 C S hf ko
  · replace hf := (if_neg hc).symm.trans hf
    refine xr_sub [] (lv2 := []) rfl ?_
    obtain ⟨hcx, hf⟩ := mm_gd_e hf
    obtain ⟨z, hf2, rfl⟩ := mm_mp_e hf
    clear hf
    have hf := hf2
    clear hf2
    refine xr_widen (k := 21055) (n := 3730914) (by omega) (by omega) ?_
    exact w_L_law_602 C S hf ko
noncomputable def f_L_law_635 (sc : Option Nat) (xs : Nat → Int32) (L : Nat) (M : mm_M) : Option (Int32) :=
  some 0
set_option maxRecDepth 20000 in
theorem w_L_law_635 {g : mm_c} {nm : String} {sc : Option Nat} {xs : Nat → Int32} {L : Nat} (C : mm_ok g cL_law "LessonCardsLaw" (some .boolean) nm 4 11 398 600000 7302250) (S : mm_law g sc L xs) {M : mm_M} {res : Int32} (hf : f_L_law_635 sc xs L M = some res) (ko : (fun z : Int32 => z = 1) res) : mm_X g 21055 3730914 M 635 [] [] := by
  unfold f_L_law_635 at hf
  refine xr_iconst 636 C (v := 0) dL_law_635 (by decide) rfl ?_
  obtain rfl := Option.some.inj hf
  exact absurd ko (by decide)
noncomputable def f_L_law_604 (sc : Option Nat) (xs : Nat → Int32) (L : Nat) (M : mm_M) (c18 : Nat) (v1 : Option Nat) (v2 : Option Nat) (v3 : Int32) : Option ((Nat × mm_M × Int32) ⊕ (Int32)) :=
  (mm_sc xs L (v3 + 1)).bind fun x609 =>
  (mm_sc xs L (v3 + 2)).bind fun x614 =>
  (mm_rc M v1 10).bind fun u615 =>
  mm_gd (c18 < 512) <|
  (f_X9_pupil M v1 x609 x614).bind fun x615 =>
  (mm_sc xs L (v3 + 1)).bind fun x623 =>
  (mm_sc xs L (v3 + 2)).bind fun x628 =>
  (mm_rc M v2 11).bind fun u629 =>
  mm_b2 (f_X10_pupil M v2 x623 x628) fun x629 M629 =>
  if x615 = x629 then f_L_law_1117 sc xs L M629 c18 v1 v2 v3 else mm_gd (c18 ≤ 512) (mm_mp (f_L_law_635 sc xs L M629))
set_option maxRecDepth 20000 in
theorem w_L_law_604 {g : mm_c} {nm : String} {sc : Option Nat} {xs : Nat → Int32} {L : Nat} (C : mm_ok g cL_law "LessonCardsLaw" (some .boolean) nm 4 11 398 600000 7302250) (S : mm_law g sc L xs) {M : mm_M} {c18 : Nat} {v1 : Option Nat} {v2 : Option Nat} {v3 : Int32} {res : (Nat × mm_M × Int32) ⊕ (Int32)} (hf : f_L_law_604 sc xs L M c18 v1 v2 v3 = some res) (ko : (mm_o (h_L_law_18 g sc v1 v2) (fun z : Int32 => z = 1)) res) : mm_X g (63 + 41 * c18) (52194 + 7185 * c18) M 604 [(0, mm_r sc), (1, mm_r v1), (2, mm_r v2), (3, mm_i v3)] [] := by
  unfold f_L_law_604 at hf
  refine xr_aload_n 605 1 C dL_law_604 rfl rfl rfl ?_
  refine xr_aload_n 606 0 C dL_law_605 rfl rfl rfl ?_
  refine xr_iload_n 607 3 C dL_law_606 rfl rfl rfl ?_
  refine xr_iconst 608 C (v := 1) dL_law_607 (by decide) rfl ?_
  refine xr_iadd 609 C dL_law_608 rfl ?_
  obtain ⟨x609, h609, hf⟩ := mm_bd_e hf
  refine xr_sld 610 C S h609 dL_law_609 rfl ?_
  refine xr_aload_n 611 0 C dL_law_610 rfl rfl rfl ?_
  refine xr_iload_n 612 3 C dL_law_611 rfl rfl rfl ?_
  refine xr_iconst 613 C (v := 2) dL_law_612 (by decide) rfl ?_
  refine xr_iadd 614 C dL_law_613 rfl ?_
  obtain ⟨x614, h614, hf⟩ := mm_bd_e hf
  refine xr_sld 615 C S h614 dL_law_614 rfl ?_
  obtain ⟨u615, g615, hf⟩ := mm_bd_e hf
  obtain ⟨hc18, hf⟩ := mm_gd_e hf
  obtain ⟨x615, h615, hf⟩ := mm_bd_e hf
  refine xr_callV 618 C [mm_i x609, mm_i x614] cm_L_74 (fun l G cy => c_X9_pupil l G cy h615) g615 rfl rfl ⟨⟨Nat.le_of_ble_eq_true rfl, Nat.le_of_ble_eq_true rfl⟩, (by omega), (by omega)⟩ (Nat.le_of_ble_eq_true rfl) dL_law_615 rfl ?_
  refine xr_aload_n 619 2 C dL_law_618 rfl rfl rfl ?_
  refine xr_aload_n 620 0 C dL_law_619 rfl rfl rfl ?_
  refine xr_iload_n 621 3 C dL_law_620 rfl rfl rfl ?_
  refine xr_iconst 622 C (v := 1) dL_law_621 (by decide) rfl ?_
  refine xr_iadd 623 C dL_law_622 rfl ?_
  obtain ⟨x623, h623, hf⟩ := mm_bd_e hf
  refine xr_sld 624 C S h623 dL_law_623 rfl ?_
  refine xr_aload_n 625 0 C dL_law_624 rfl rfl rfl ?_
  refine xr_iload_n 626 3 C dL_law_625 rfl rfl rfl ?_
  refine xr_iconst 627 C (v := 2) dL_law_626 (by decide) rfl ?_
  refine xr_iadd 628 C dL_law_627 rfl ?_
  obtain ⟨x628, h628, hf⟩ := mm_bd_e hf
  refine xr_sld 629 C S h628 dL_law_628 rfl ?_
  obtain ⟨u629, g629, hf⟩ := mm_bd_e hf
  obtain ⟨x629, M629, h629, hf⟩ := mm_b2_e hf
  refine xr_callV 632 C [mm_i x623, mm_i x628] cm_L_77 (fun l G cy => c_X10_pupil l G cy h629) g629 rfl rfl ⟨⟨Nat.le_of_ble_eq_true rfl, Nat.le_of_ble_eq_true rfl⟩, (by omega), (by omega)⟩ (Nat.le_of_ble_eq_true rfl) dL_law_629 rfl ?_
  refine xr_icmp_eq 1117 635 C dL_law_632 (by decide) rfl (fun hc => ?_) (fun hc => ?_)
  · replace hf := (if_pos hc).symm.trans hf
    refine xr_widen (k := (63 + 41 * c18 + 38)) (n := (52194 + 7185 * c18 + 6171)) (by omega) (by omega) ?_
    exact w_L_law_1117 C S hf ko
  · replace hf := (if_neg hc).symm.trans hf
    refine xr_sub [] (lv2 := []) rfl ?_
    obtain ⟨hcx, hf⟩ := mm_gd_e hf
    obtain ⟨z, hf2, rfl⟩ := mm_mp_e hf
    clear hf
    have hf := hf2
    clear hf2
    refine xr_widen (k := 21055) (n := 3730914) (by omega) (by omega) ?_
    exact w_L_law_635 C S hf ko
noncomputable def f_L_law_668 (sc : Option Nat) (xs : Nat → Int32) (L : Nat) (M : mm_M) : Option (Int32) :=
  some 0
set_option maxRecDepth 20000 in
theorem w_L_law_668 {g : mm_c} {nm : String} {sc : Option Nat} {xs : Nat → Int32} {L : Nat} (C : mm_ok g cL_law "LessonCardsLaw" (some .boolean) nm 4 11 398 600000 7302250) (S : mm_law g sc L xs) {M : mm_M} {res : Int32} (hf : f_L_law_668 sc xs L M = some res) (ko : (fun z : Int32 => z = 1) res) : mm_X g 21055 3730914 M 668 [] [] := by
  unfold f_L_law_668 at hf
  refine xr_iconst 669 C (v := 0) dL_law_668 (by decide) rfl ?_
  obtain rfl := Option.some.inj hf
  exact absurd ko (by decide)
noncomputable def f_L_law_637 (sc : Option Nat) (xs : Nat → Int32) (L : Nat) (M : mm_M) (c18 : Nat) (v1 : Option Nat) (v2 : Option Nat) (v3 : Int32) : Option ((Nat × mm_M × Int32) ⊕ (Int32)) :=
  (mm_sc xs L (v3 + 1)).bind fun x642 =>
  (mm_sc xs L (v3 + 2)).bind fun x647 =>
  (mm_rc M v1 10).bind fun u648 =>
  mm_gd (c18 < 512) <|
  (f_X9_known M v1 x642 x647).bind fun x648 =>
  (mm_sc xs L (v3 + 1)).bind fun x656 =>
  (mm_sc xs L (v3 + 2)).bind fun x661 =>
  (mm_rc M v2 11).bind fun u662 =>
  mm_b2 (f_X10_known M v2 x656 x661) fun x662 M662 =>
  if x648 = x662 then f_L_law_1117 sc xs L M662 c18 v1 v2 v3 else mm_gd (c18 ≤ 512) (mm_mp (f_L_law_668 sc xs L M662))
set_option maxRecDepth 20000 in
theorem w_L_law_637 {g : mm_c} {nm : String} {sc : Option Nat} {xs : Nat → Int32} {L : Nat} (C : mm_ok g cL_law "LessonCardsLaw" (some .boolean) nm 4 11 398 600000 7302250) (S : mm_law g sc L xs) {M : mm_M} {c18 : Nat} {v1 : Option Nat} {v2 : Option Nat} {v3 : Int32} {res : (Nat × mm_M × Int32) ⊕ (Int32)} (hf : f_L_law_637 sc xs L M c18 v1 v2 v3 = some res) (ko : (mm_o (h_L_law_18 g sc v1 v2) (fun z : Int32 => z = 1)) res) : mm_X g (63 + 41 * c18) (52194 + 7185 * c18) M 637 [(0, mm_r sc), (1, mm_r v1), (2, mm_r v2), (3, mm_i v3)] [] := by
  unfold f_L_law_637 at hf
  refine xr_aload_n 638 1 C dL_law_637 rfl rfl rfl ?_
  refine xr_aload_n 639 0 C dL_law_638 rfl rfl rfl ?_
  refine xr_iload_n 640 3 C dL_law_639 rfl rfl rfl ?_
  refine xr_iconst 641 C (v := 1) dL_law_640 (by decide) rfl ?_
  refine xr_iadd 642 C dL_law_641 rfl ?_
  obtain ⟨x642, h642, hf⟩ := mm_bd_e hf
  refine xr_sld 643 C S h642 dL_law_642 rfl ?_
  refine xr_aload_n 644 0 C dL_law_643 rfl rfl rfl ?_
  refine xr_iload_n 645 3 C dL_law_644 rfl rfl rfl ?_
  refine xr_iconst 646 C (v := 2) dL_law_645 (by decide) rfl ?_
  refine xr_iadd 647 C dL_law_646 rfl ?_
  obtain ⟨x647, h647, hf⟩ := mm_bd_e hf
  refine xr_sld 648 C S h647 dL_law_647 rfl ?_
  obtain ⟨u648, g648, hf⟩ := mm_bd_e hf
  obtain ⟨hc18, hf⟩ := mm_gd_e hf
  obtain ⟨x648, h648, hf⟩ := mm_bd_e hf
  refine xr_callV 651 C [mm_i x642, mm_i x647] cm_L_78 (fun l G cy => c_X9_known l G cy h648) g648 rfl rfl ⟨⟨Nat.le_of_ble_eq_true rfl, Nat.le_of_ble_eq_true rfl⟩, (by omega), (by omega)⟩ (Nat.le_of_ble_eq_true rfl) dL_law_648 rfl ?_
  refine xr_aload_n 652 2 C dL_law_651 rfl rfl rfl ?_
  refine xr_aload_n 653 0 C dL_law_652 rfl rfl rfl ?_
  refine xr_iload_n 654 3 C dL_law_653 rfl rfl rfl ?_
  refine xr_iconst 655 C (v := 1) dL_law_654 (by decide) rfl ?_
  refine xr_iadd 656 C dL_law_655 rfl ?_
  obtain ⟨x656, h656, hf⟩ := mm_bd_e hf
  refine xr_sld 657 C S h656 dL_law_656 rfl ?_
  refine xr_aload_n 658 0 C dL_law_657 rfl rfl rfl ?_
  refine xr_iload_n 659 3 C dL_law_658 rfl rfl rfl ?_
  refine xr_iconst 660 C (v := 2) dL_law_659 (by decide) rfl ?_
  refine xr_iadd 661 C dL_law_660 rfl ?_
  obtain ⟨x661, h661, hf⟩ := mm_bd_e hf
  refine xr_sld 662 C S h661 dL_law_661 rfl ?_
  obtain ⟨u662, g662, hf⟩ := mm_bd_e hf
  obtain ⟨x662, M662, h662, hf⟩ := mm_b2_e hf
  refine xr_callV 665 C [mm_i x656, mm_i x661] cm_L_81 (fun l G cy => c_X10_known l G cy h662) g662 rfl rfl ⟨⟨Nat.le_of_ble_eq_true rfl, Nat.le_of_ble_eq_true rfl⟩, (by omega), (by omega)⟩ (Nat.le_of_ble_eq_true rfl) dL_law_662 rfl ?_
  refine xr_icmp_eq 1117 668 C dL_law_665 (by decide) rfl (fun hc => ?_) (fun hc => ?_)
  · replace hf := (if_pos hc).symm.trans hf
    refine xr_widen (k := (63 + 41 * c18 + 38)) (n := (52194 + 7185 * c18 + 6171)) (by omega) (by omega) ?_
    exact w_L_law_1117 C S hf ko
  · replace hf := (if_neg hc).symm.trans hf
    refine xr_sub [] (lv2 := []) rfl ?_
    obtain ⟨hcx, hf⟩ := mm_gd_e hf
    obtain ⟨z, hf2, rfl⟩ := mm_mp_e hf
    clear hf
    have hf := hf2
    clear hf2
    refine xr_widen (k := 21055) (n := 3730914) (by omega) (by omega) ?_
    exact w_L_law_668 C S hf ko
noncomputable def f_L_law_701 (sc : Option Nat) (xs : Nat → Int32) (L : Nat) (M : mm_M) : Option (Int32) :=
  some 0
set_option maxRecDepth 20000 in
theorem w_L_law_701 {g : mm_c} {nm : String} {sc : Option Nat} {xs : Nat → Int32} {L : Nat} (C : mm_ok g cL_law "LessonCardsLaw" (some .boolean) nm 4 11 398 600000 7302250) (S : mm_law g sc L xs) {M : mm_M} {res : Int32} (hf : f_L_law_701 sc xs L M = some res) (ko : (fun z : Int32 => z = 1) res) : mm_X g 21055 3730914 M 701 [] [] := by
  unfold f_L_law_701 at hf
  refine xr_iconst 702 C (v := 0) dL_law_701 (by decide) rfl ?_
  obtain rfl := Option.some.inj hf
  exact absurd ko (by decide)
noncomputable def f_L_law_670 (sc : Option Nat) (xs : Nat → Int32) (L : Nat) (M : mm_M) (c18 : Nat) (v1 : Option Nat) (v2 : Option Nat) (v3 : Int32) : Option ((Nat × mm_M × Int32) ⊕ (Int32)) :=
  (mm_sc xs L (v3 + 1)).bind fun x675 =>
  (mm_sc xs L (v3 + 2)).bind fun x680 =>
  (mm_rc M v1 10).bind fun u681 =>
  mm_gd (c18 < 512) <|
  (f_X9_mean M v1 x675 x680).bind fun x681 =>
  (mm_sc xs L (v3 + 1)).bind fun x689 =>
  (mm_sc xs L (v3 + 2)).bind fun x694 =>
  (mm_rc M v2 11).bind fun u695 =>
  mm_b2 (f_X10_mean M v2 x689 x694) fun x695 M695 =>
  if x681 = x695 then f_L_law_1117 sc xs L M695 c18 v1 v2 v3 else mm_gd (c18 ≤ 512) (mm_mp (f_L_law_701 sc xs L M695))
set_option maxRecDepth 20000 in
theorem w_L_law_670 {g : mm_c} {nm : String} {sc : Option Nat} {xs : Nat → Int32} {L : Nat} (C : mm_ok g cL_law "LessonCardsLaw" (some .boolean) nm 4 11 398 600000 7302250) (S : mm_law g sc L xs) {M : mm_M} {c18 : Nat} {v1 : Option Nat} {v2 : Option Nat} {v3 : Int32} {res : (Nat × mm_M × Int32) ⊕ (Int32)} (hf : f_L_law_670 sc xs L M c18 v1 v2 v3 = some res) (ko : (mm_o (h_L_law_18 g sc v1 v2) (fun z : Int32 => z = 1)) res) : mm_X g (63 + 41 * c18) (52194 + 7185 * c18) M 670 [(0, mm_r sc), (1, mm_r v1), (2, mm_r v2), (3, mm_i v3)] [] := by
  unfold f_L_law_670 at hf
  refine xr_aload_n 671 1 C dL_law_670 rfl rfl rfl ?_
  refine xr_aload_n 672 0 C dL_law_671 rfl rfl rfl ?_
  refine xr_iload_n 673 3 C dL_law_672 rfl rfl rfl ?_
  refine xr_iconst 674 C (v := 1) dL_law_673 (by decide) rfl ?_
  refine xr_iadd 675 C dL_law_674 rfl ?_
  obtain ⟨x675, h675, hf⟩ := mm_bd_e hf
  refine xr_sld 676 C S h675 dL_law_675 rfl ?_
  refine xr_aload_n 677 0 C dL_law_676 rfl rfl rfl ?_
  refine xr_iload_n 678 3 C dL_law_677 rfl rfl rfl ?_
  refine xr_iconst 679 C (v := 2) dL_law_678 (by decide) rfl ?_
  refine xr_iadd 680 C dL_law_679 rfl ?_
  obtain ⟨x680, h680, hf⟩ := mm_bd_e hf
  refine xr_sld 681 C S h680 dL_law_680 rfl ?_
  obtain ⟨u681, g681, hf⟩ := mm_bd_e hf
  obtain ⟨hc18, hf⟩ := mm_gd_e hf
  obtain ⟨x681, h681, hf⟩ := mm_bd_e hf
  refine xr_callV 684 C [mm_i x675, mm_i x680] cm_L_82 (fun l G cy => c_X9_mean l G cy h681) g681 rfl rfl ⟨⟨Nat.le_of_ble_eq_true rfl, Nat.le_of_ble_eq_true rfl⟩, (by omega), (by omega)⟩ (Nat.le_of_ble_eq_true rfl) dL_law_681 rfl ?_
  refine xr_aload_n 685 2 C dL_law_684 rfl rfl rfl ?_
  refine xr_aload_n 686 0 C dL_law_685 rfl rfl rfl ?_
  refine xr_iload_n 687 3 C dL_law_686 rfl rfl rfl ?_
  refine xr_iconst 688 C (v := 1) dL_law_687 (by decide) rfl ?_
  refine xr_iadd 689 C dL_law_688 rfl ?_
  obtain ⟨x689, h689, hf⟩ := mm_bd_e hf
  refine xr_sld 690 C S h689 dL_law_689 rfl ?_
  refine xr_aload_n 691 0 C dL_law_690 rfl rfl rfl ?_
  refine xr_iload_n 692 3 C dL_law_691 rfl rfl rfl ?_
  refine xr_iconst 693 C (v := 2) dL_law_692 (by decide) rfl ?_
  refine xr_iadd 694 C dL_law_693 rfl ?_
  obtain ⟨x694, h694, hf⟩ := mm_bd_e hf
  refine xr_sld 695 C S h694 dL_law_694 rfl ?_
  obtain ⟨u695, g695, hf⟩ := mm_bd_e hf
  obtain ⟨x695, M695, h695, hf⟩ := mm_b2_e hf
  refine xr_callV 698 C [mm_i x689, mm_i x694] cm_L_85 (fun l G cy => c_X10_mean l G cy h695) g695 rfl rfl ⟨⟨Nat.le_of_ble_eq_true rfl, Nat.le_of_ble_eq_true rfl⟩, (by omega), (by omega)⟩ (Nat.le_of_ble_eq_true rfl) dL_law_695 rfl ?_
  refine xr_icmp_eq 1117 701 C dL_law_698 (by decide) rfl (fun hc => ?_) (fun hc => ?_)
  · replace hf := (if_pos hc).symm.trans hf
    refine xr_widen (k := (63 + 41 * c18 + 38)) (n := (52194 + 7185 * c18 + 6171)) (by omega) (by omega) ?_
    exact w_L_law_1117 C S hf ko
  · replace hf := (if_neg hc).symm.trans hf
    refine xr_sub [] (lv2 := []) rfl ?_
    obtain ⟨hcx, hf⟩ := mm_gd_e hf
    obtain ⟨z, hf2, rfl⟩ := mm_mp_e hf
    clear hf
    have hf := hf2
    clear hf2
    refine xr_widen (k := 21055) (n := 3730914) (by omega) (by omega) ?_
    exact w_L_law_701 C S hf ko
noncomputable def f_L_law_734 (sc : Option Nat) (xs : Nat → Int32) (L : Nat) (M : mm_M) : Option (Int32) :=
  some 0
set_option maxRecDepth 20000 in
theorem w_L_law_734 {g : mm_c} {nm : String} {sc : Option Nat} {xs : Nat → Int32} {L : Nat} (C : mm_ok g cL_law "LessonCardsLaw" (some .boolean) nm 4 11 398 600000 7302250) (S : mm_law g sc L xs) {M : mm_M} {res : Int32} (hf : f_L_law_734 sc xs L M = some res) (ko : (fun z : Int32 => z = 1) res) : mm_X g 21055 3730914 M 734 [] [] := by
  unfold f_L_law_734 at hf
  refine xr_iconst 735 C (v := 0) dL_law_734 (by decide) rfl ?_
  obtain rfl := Option.some.inj hf
  exact absurd ko (by decide)
noncomputable def f_L_law_703 (sc : Option Nat) (xs : Nat → Int32) (L : Nat) (M : mm_M) (c18 : Nat) (v1 : Option Nat) (v2 : Option Nat) (v3 : Int32) : Option ((Nat × mm_M × Int32) ⊕ (Int32)) :=
  (mm_sc xs L (v3 + 1)).bind fun x708 =>
  (mm_sc xs L (v3 + 2)).bind fun x713 =>
  (mm_rc M v1 10).bind fun u714 =>
  mm_gd (c18 < 512) <|
  mm_b2 (f_X9_plan M v1 x708 x713) fun x714 M714 =>
  (mm_sc xs L (v3 + 1)).bind fun x722 =>
  (mm_sc xs L (v3 + 2)).bind fun x727 =>
  (mm_rc M714 v2 11).bind fun u728 =>
  mm_b2 (f_X10_plan M714 v2 x722 x727) fun x728 M728 =>
  if x714 = x728 then f_L_law_1117 sc xs L M728 c18 v1 v2 v3 else mm_gd (c18 ≤ 512) (mm_mp (f_L_law_734 sc xs L M728))
set_option maxRecDepth 20000 in
theorem w_L_law_703 {g : mm_c} {nm : String} {sc : Option Nat} {xs : Nat → Int32} {L : Nat} (C : mm_ok g cL_law "LessonCardsLaw" (some .boolean) nm 4 11 398 600000 7302250) (S : mm_law g sc L xs) {M : mm_M} {c18 : Nat} {v1 : Option Nat} {v2 : Option Nat} {v3 : Int32} {res : (Nat × mm_M × Int32) ⊕ (Int32)} (hf : f_L_law_703 sc xs L M c18 v1 v2 v3 = some res) (ko : (mm_o (h_L_law_18 g sc v1 v2) (fun z : Int32 => z = 1)) res) : mm_X g (63 + 41 * c18) (52194 + 7185 * c18) M 703 [(0, mm_r sc), (1, mm_r v1), (2, mm_r v2), (3, mm_i v3)] [] := by
  unfold f_L_law_703 at hf
  refine xr_aload_n 704 1 C dL_law_703 rfl rfl rfl ?_
  refine xr_aload_n 705 0 C dL_law_704 rfl rfl rfl ?_
  refine xr_iload_n 706 3 C dL_law_705 rfl rfl rfl ?_
  refine xr_iconst 707 C (v := 1) dL_law_706 (by decide) rfl ?_
  refine xr_iadd 708 C dL_law_707 rfl ?_
  obtain ⟨x708, h708, hf⟩ := mm_bd_e hf
  refine xr_sld 709 C S h708 dL_law_708 rfl ?_
  refine xr_aload_n 710 0 C dL_law_709 rfl rfl rfl ?_
  refine xr_iload_n 711 3 C dL_law_710 rfl rfl rfl ?_
  refine xr_iconst 712 C (v := 2) dL_law_711 (by decide) rfl ?_
  refine xr_iadd 713 C dL_law_712 rfl ?_
  obtain ⟨x713, h713, hf⟩ := mm_bd_e hf
  refine xr_sld 714 C S h713 dL_law_713 rfl ?_
  obtain ⟨u714, g714, hf⟩ := mm_bd_e hf
  obtain ⟨hc18, hf⟩ := mm_gd_e hf
  obtain ⟨x714, M714, h714, hf⟩ := mm_b2_e hf
  refine xr_callV 717 C [mm_i x708, mm_i x713] cm_L_86 (fun l G cy => c_X9_plan l G cy h714) g714 rfl rfl ⟨⟨Nat.le_of_ble_eq_true rfl, Nat.le_of_ble_eq_true rfl⟩, (by omega), (by omega)⟩ (Nat.le_of_ble_eq_true rfl) dL_law_714 rfl ?_
  refine xr_aload_n 718 2 C dL_law_717 rfl rfl rfl ?_
  refine xr_aload_n 719 0 C dL_law_718 rfl rfl rfl ?_
  refine xr_iload_n 720 3 C dL_law_719 rfl rfl rfl ?_
  refine xr_iconst 721 C (v := 1) dL_law_720 (by decide) rfl ?_
  refine xr_iadd 722 C dL_law_721 rfl ?_
  obtain ⟨x722, h722, hf⟩ := mm_bd_e hf
  refine xr_sld 723 C S h722 dL_law_722 rfl ?_
  refine xr_aload_n 724 0 C dL_law_723 rfl rfl rfl ?_
  refine xr_iload_n 725 3 C dL_law_724 rfl rfl rfl ?_
  refine xr_iconst 726 C (v := 2) dL_law_725 (by decide) rfl ?_
  refine xr_iadd 727 C dL_law_726 rfl ?_
  obtain ⟨x727, h727, hf⟩ := mm_bd_e hf
  refine xr_sld 728 C S h727 dL_law_727 rfl ?_
  obtain ⟨u728, g728, hf⟩ := mm_bd_e hf
  obtain ⟨x728, M728, h728, hf⟩ := mm_b2_e hf
  refine xr_callV 731 C [mm_i x722, mm_i x727] cm_L_89 (fun l G cy => c_X10_plan l G cy h728) g728 rfl rfl ⟨⟨Nat.le_of_ble_eq_true rfl, Nat.le_of_ble_eq_true rfl⟩, (by omega), (by omega)⟩ (Nat.le_of_ble_eq_true rfl) dL_law_728 rfl ?_
  refine xr_icmp_eq 1117 734 C dL_law_731 (by decide) rfl (fun hc => ?_) (fun hc => ?_)
  · replace hf := (if_pos hc).symm.trans hf
    refine xr_widen (k := (63 + 41 * c18 + 38)) (n := (52194 + 7185 * c18 + 6171)) (by omega) (by omega) ?_
    exact w_L_law_1117 C S hf ko
  · replace hf := (if_neg hc).symm.trans hf
    refine xr_sub [] (lv2 := []) rfl ?_
    obtain ⟨hcx, hf⟩ := mm_gd_e hf
    obtain ⟨z, hf2, rfl⟩ := mm_mp_e hf
    clear hf
    have hf := hf2
    clear hf2
    refine xr_widen (k := 21055) (n := 3730914) (by omega) (by omega) ?_
    exact w_L_law_734 C S hf ko
noncomputable def f_L_law_767 (sc : Option Nat) (xs : Nat → Int32) (L : Nat) (M : mm_M) : Option (Int32) :=
  some 0
set_option maxRecDepth 20000 in
theorem w_L_law_767 {g : mm_c} {nm : String} {sc : Option Nat} {xs : Nat → Int32} {L : Nat} (C : mm_ok g cL_law "LessonCardsLaw" (some .boolean) nm 4 11 398 600000 7302250) (S : mm_law g sc L xs) {M : mm_M} {res : Int32} (hf : f_L_law_767 sc xs L M = some res) (ko : (fun z : Int32 => z = 1) res) : mm_X g 21055 3730914 M 767 [] [] := by
  unfold f_L_law_767 at hf
  refine xr_iconst 768 C (v := 0) dL_law_767 (by decide) rfl ?_
  obtain rfl := Option.some.inj hf
  exact absurd ko (by decide)
noncomputable def f_L_law_736 (sc : Option Nat) (xs : Nat → Int32) (L : Nat) (M : mm_M) (c18 : Nat) (v1 : Option Nat) (v2 : Option Nat) (v3 : Int32) : Option ((Nat × mm_M × Int32) ⊕ (Int32)) :=
  (mm_sc xs L (v3 + 1)).bind fun x741 =>
  (mm_sc xs L (v3 + 2)).bind fun x746 =>
  (mm_rc M v1 10).bind fun u747 =>
  mm_gd (c18 < 512) <|
  mm_b2 (f_X9_even M v1 x741 x746) fun x747 M747 =>
  (mm_sc xs L (v3 + 1)).bind fun x755 =>
  (mm_sc xs L (v3 + 2)).bind fun x760 =>
  (mm_rc M747 v2 11).bind fun u761 =>
  mm_b2 (f_X10_even M747 v2 x755 x760) fun x761 M761 =>
  if x747 = x761 then f_L_law_1117 sc xs L M761 c18 v1 v2 v3 else mm_gd (c18 ≤ 512) (mm_mp (f_L_law_767 sc xs L M761))
set_option maxRecDepth 20000 in
theorem w_L_law_736 {g : mm_c} {nm : String} {sc : Option Nat} {xs : Nat → Int32} {L : Nat} (C : mm_ok g cL_law "LessonCardsLaw" (some .boolean) nm 4 11 398 600000 7302250) (S : mm_law g sc L xs) {M : mm_M} {c18 : Nat} {v1 : Option Nat} {v2 : Option Nat} {v3 : Int32} {res : (Nat × mm_M × Int32) ⊕ (Int32)} (hf : f_L_law_736 sc xs L M c18 v1 v2 v3 = some res) (ko : (mm_o (h_L_law_18 g sc v1 v2) (fun z : Int32 => z = 1)) res) : mm_X g (63 + 41 * c18) (52194 + 7185 * c18) M 736 [(0, mm_r sc), (1, mm_r v1), (2, mm_r v2), (3, mm_i v3)] [] := by
  unfold f_L_law_736 at hf
  refine xr_aload_n 737 1 C dL_law_736 rfl rfl rfl ?_
  refine xr_aload_n 738 0 C dL_law_737 rfl rfl rfl ?_
  refine xr_iload_n 739 3 C dL_law_738 rfl rfl rfl ?_
  refine xr_iconst 740 C (v := 1) dL_law_739 (by decide) rfl ?_
  refine xr_iadd 741 C dL_law_740 rfl ?_
  obtain ⟨x741, h741, hf⟩ := mm_bd_e hf
  refine xr_sld 742 C S h741 dL_law_741 rfl ?_
  refine xr_aload_n 743 0 C dL_law_742 rfl rfl rfl ?_
  refine xr_iload_n 744 3 C dL_law_743 rfl rfl rfl ?_
  refine xr_iconst 745 C (v := 2) dL_law_744 (by decide) rfl ?_
  refine xr_iadd 746 C dL_law_745 rfl ?_
  obtain ⟨x746, h746, hf⟩ := mm_bd_e hf
  refine xr_sld 747 C S h746 dL_law_746 rfl ?_
  obtain ⟨u747, g747, hf⟩ := mm_bd_e hf
  obtain ⟨hc18, hf⟩ := mm_gd_e hf
  obtain ⟨x747, M747, h747, hf⟩ := mm_b2_e hf
  refine xr_callV 750 C [mm_i x741, mm_i x746] cm_L_90 (fun l G cy => c_X9_even l G cy h747) g747 rfl rfl ⟨⟨Nat.le_of_ble_eq_true rfl, Nat.le_of_ble_eq_true rfl⟩, (by omega), (by omega)⟩ (Nat.le_of_ble_eq_true rfl) dL_law_747 rfl ?_
  refine xr_aload_n 751 2 C dL_law_750 rfl rfl rfl ?_
  refine xr_aload_n 752 0 C dL_law_751 rfl rfl rfl ?_
  refine xr_iload_n 753 3 C dL_law_752 rfl rfl rfl ?_
  refine xr_iconst 754 C (v := 1) dL_law_753 (by decide) rfl ?_
  refine xr_iadd 755 C dL_law_754 rfl ?_
  obtain ⟨x755, h755, hf⟩ := mm_bd_e hf
  refine xr_sld 756 C S h755 dL_law_755 rfl ?_
  refine xr_aload_n 757 0 C dL_law_756 rfl rfl rfl ?_
  refine xr_iload_n 758 3 C dL_law_757 rfl rfl rfl ?_
  refine xr_iconst 759 C (v := 2) dL_law_758 (by decide) rfl ?_
  refine xr_iadd 760 C dL_law_759 rfl ?_
  obtain ⟨x760, h760, hf⟩ := mm_bd_e hf
  refine xr_sld 761 C S h760 dL_law_760 rfl ?_
  obtain ⟨u761, g761, hf⟩ := mm_bd_e hf
  obtain ⟨x761, M761, h761, hf⟩ := mm_b2_e hf
  refine xr_callV 764 C [mm_i x755, mm_i x760] cm_L_93 (fun l G cy => c_X10_even l G cy h761) g761 rfl rfl ⟨⟨Nat.le_of_ble_eq_true rfl, Nat.le_of_ble_eq_true rfl⟩, (by omega), (by omega)⟩ (Nat.le_of_ble_eq_true rfl) dL_law_761 rfl ?_
  refine xr_icmp_eq 1117 767 C dL_law_764 (by decide) rfl (fun hc => ?_) (fun hc => ?_)
  · replace hf := (if_pos hc).symm.trans hf
    refine xr_widen (k := (63 + 41 * c18 + 38)) (n := (52194 + 7185 * c18 + 6171)) (by omega) (by omega) ?_
    exact w_L_law_1117 C S hf ko
  · replace hf := (if_neg hc).symm.trans hf
    refine xr_sub [] (lv2 := []) rfl ?_
    obtain ⟨hcx, hf⟩ := mm_gd_e hf
    obtain ⟨z, hf2, rfl⟩ := mm_mp_e hf
    clear hf
    have hf := hf2
    clear hf2
    refine xr_widen (k := 21055) (n := 3730914) (by omega) (by omega) ?_
    exact w_L_law_767 C S hf ko
noncomputable def f_L_law_790 (sc : Option Nat) (xs : Nat → Int32) (L : Nat) (M : mm_M) : Option (Int32) :=
  some 0
set_option maxRecDepth 20000 in
theorem w_L_law_790 {g : mm_c} {nm : String} {sc : Option Nat} {xs : Nat → Int32} {L : Nat} (C : mm_ok g cL_law "LessonCardsLaw" (some .boolean) nm 4 11 398 600000 7302250) (S : mm_law g sc L xs) {M : mm_M} {res : Int32} (hf : f_L_law_790 sc xs L M = some res) (ko : (fun z : Int32 => z = 1) res) : mm_X g 21055 3730914 M 790 [] [] := by
  unfold f_L_law_790 at hf
  refine xr_iconst 791 C (v := 0) dL_law_790 (by decide) rfl ?_
  obtain rfl := Option.some.inj hf
  exact absurd ko (by decide)
noncomputable def f_L_law_769 (sc : Option Nat) (xs : Nat → Int32) (L : Nat) (M : mm_M) (c18 : Nat) (v1 : Option Nat) (v2 : Option Nat) (v3 : Int32) : Option ((Nat × mm_M × Int32) ⊕ (Int32)) :=
  (mm_sc xs L (v3 + 1)).bind fun x774 =>
  (mm_rc M v1 10).bind fun u775 =>
  mm_gd (c18 < 512) <|
  (f_X9_load M v1 x774).bind fun x775 =>
  (mm_sc xs L (v3 + 1)).bind fun x783 =>
  (mm_rc M v2 11).bind fun u784 =>
  (f_X10_load M v2 x783).bind fun x784 =>
  if x775 = x784 then f_L_law_1117 sc xs L M c18 v1 v2 v3 else mm_gd (c18 ≤ 512) (mm_mp (f_L_law_790 sc xs L M))
set_option maxRecDepth 20000 in
theorem w_L_law_769 {g : mm_c} {nm : String} {sc : Option Nat} {xs : Nat → Int32} {L : Nat} (C : mm_ok g cL_law "LessonCardsLaw" (some .boolean) nm 4 11 398 600000 7302250) (S : mm_law g sc L xs) {M : mm_M} {c18 : Nat} {v1 : Option Nat} {v2 : Option Nat} {v3 : Int32} {res : (Nat × mm_M × Int32) ⊕ (Int32)} (hf : f_L_law_769 sc xs L M c18 v1 v2 v3 = some res) (ko : (mm_o (h_L_law_18 g sc v1 v2) (fun z : Int32 => z = 1)) res) : mm_X g (63 + 41 * c18) (52194 + 7185 * c18) M 769 [(0, mm_r sc), (1, mm_r v1), (2, mm_r v2), (3, mm_i v3)] [] := by
  unfold f_L_law_769 at hf
  refine xr_aload_n 770 1 C dL_law_769 rfl rfl rfl ?_
  refine xr_aload_n 771 0 C dL_law_770 rfl rfl rfl ?_
  refine xr_iload_n 772 3 C dL_law_771 rfl rfl rfl ?_
  refine xr_iconst 773 C (v := 1) dL_law_772 (by decide) rfl ?_
  refine xr_iadd 774 C dL_law_773 rfl ?_
  obtain ⟨x774, h774, hf⟩ := mm_bd_e hf
  refine xr_sld 775 C S h774 dL_law_774 rfl ?_
  obtain ⟨u775, g775, hf⟩ := mm_bd_e hf
  obtain ⟨hc18, hf⟩ := mm_gd_e hf
  obtain ⟨x775, h775, hf⟩ := mm_bd_e hf
  refine xr_callV 778 C [mm_i x774] cm_L_94 (fun l G cy => c_X9_load l G cy h775) g775 rfl rfl ⟨⟨Nat.le_of_ble_eq_true rfl, Nat.le_of_ble_eq_true rfl⟩, (by omega), (by omega)⟩ (Nat.le_of_ble_eq_true rfl) dL_law_775 rfl ?_
  refine xr_aload_n 779 2 C dL_law_778 rfl rfl rfl ?_
  refine xr_aload_n 780 0 C dL_law_779 rfl rfl rfl ?_
  refine xr_iload_n 781 3 C dL_law_780 rfl rfl rfl ?_
  refine xr_iconst 782 C (v := 1) dL_law_781 (by decide) rfl ?_
  refine xr_iadd 783 C dL_law_782 rfl ?_
  obtain ⟨x783, h783, hf⟩ := mm_bd_e hf
  refine xr_sld 784 C S h783 dL_law_783 rfl ?_
  obtain ⟨u784, g784, hf⟩ := mm_bd_e hf
  obtain ⟨x784, h784, hf⟩ := mm_bd_e hf
  refine xr_callV 787 C [mm_i x783] cm_L_97 (fun l G cy => c_X10_load l G cy h784) g784 rfl rfl ⟨⟨Nat.le_of_ble_eq_true rfl, Nat.le_of_ble_eq_true rfl⟩, (by omega), (by omega)⟩ (Nat.le_of_ble_eq_true rfl) dL_law_784 rfl ?_
  refine xr_icmp_eq 1117 790 C dL_law_787 (by decide) rfl (fun hc => ?_) (fun hc => ?_)
  · replace hf := (if_pos hc).symm.trans hf
    refine xr_widen (k := (63 + 41 * c18 + 38)) (n := (52194 + 7185 * c18 + 6171)) (by omega) (by omega) ?_
    exact w_L_law_1117 C S hf ko
  · replace hf := (if_neg hc).symm.trans hf
    refine xr_sub [] (lv2 := []) rfl ?_
    obtain ⟨hcx, hf⟩ := mm_gd_e hf
    obtain ⟨z, hf2, rfl⟩ := mm_mp_e hf
    clear hf
    have hf := hf2
    clear hf2
    refine xr_widen (k := 21055) (n := 3730914) (by omega) (by omega) ?_
    exact w_L_law_790 C S hf ko
noncomputable def f_L_law_823 (sc : Option Nat) (xs : Nat → Int32) (L : Nat) (M : mm_M) : Option (Int32) :=
  some 0
set_option maxRecDepth 20000 in
theorem w_L_law_823 {g : mm_c} {nm : String} {sc : Option Nat} {xs : Nat → Int32} {L : Nat} (C : mm_ok g cL_law "LessonCardsLaw" (some .boolean) nm 4 11 398 600000 7302250) (S : mm_law g sc L xs) {M : mm_M} {res : Int32} (hf : f_L_law_823 sc xs L M = some res) (ko : (fun z : Int32 => z = 1) res) : mm_X g 21055 3730914 M 823 [] [] := by
  unfold f_L_law_823 at hf
  refine xr_iconst 824 C (v := 0) dL_law_823 (by decide) rfl ?_
  obtain rfl := Option.some.inj hf
  exact absurd ko (by decide)
noncomputable def f_L_law_792 (sc : Option Nat) (xs : Nat → Int32) (L : Nat) (M : mm_M) (c18 : Nat) (v1 : Option Nat) (v2 : Option Nat) (v3 : Int32) : Option ((Nat × mm_M × Int32) ⊕ (Int32)) :=
  (mm_sc xs L (v3 + 1)).bind fun x797 =>
  (mm_sc xs L (v3 + 2)).bind fun x802 =>
  (mm_rc M v1 10).bind fun u803 =>
  mm_gd (c18 < 512) <|
  (f_X9_put M v1 x797 x802).bind fun x803 =>
  (mm_sc xs L (v3 + 1)).bind fun x811 =>
  (mm_sc xs L (v3 + 2)).bind fun x816 =>
  (mm_rc M v2 11).bind fun u817 =>
  (f_X10_put M v2 x811 x816).bind fun x817 =>
  if x803 = x817 then f_L_law_1117 sc xs L M c18 v1 v2 v3 else mm_gd (c18 ≤ 512) (mm_mp (f_L_law_823 sc xs L M))
set_option maxRecDepth 20000 in
theorem w_L_law_792 {g : mm_c} {nm : String} {sc : Option Nat} {xs : Nat → Int32} {L : Nat} (C : mm_ok g cL_law "LessonCardsLaw" (some .boolean) nm 4 11 398 600000 7302250) (S : mm_law g sc L xs) {M : mm_M} {c18 : Nat} {v1 : Option Nat} {v2 : Option Nat} {v3 : Int32} {res : (Nat × mm_M × Int32) ⊕ (Int32)} (hf : f_L_law_792 sc xs L M c18 v1 v2 v3 = some res) (ko : (mm_o (h_L_law_18 g sc v1 v2) (fun z : Int32 => z = 1)) res) : mm_X g (63 + 41 * c18) (52194 + 7185 * c18) M 792 [(0, mm_r sc), (1, mm_r v1), (2, mm_r v2), (3, mm_i v3)] [] := by
  unfold f_L_law_792 at hf
  refine xr_aload_n 793 1 C dL_law_792 rfl rfl rfl ?_
  refine xr_aload_n 794 0 C dL_law_793 rfl rfl rfl ?_
  refine xr_iload_n 795 3 C dL_law_794 rfl rfl rfl ?_
  refine xr_iconst 796 C (v := 1) dL_law_795 (by decide) rfl ?_
  refine xr_iadd 797 C dL_law_796 rfl ?_
  obtain ⟨x797, h797, hf⟩ := mm_bd_e hf
  refine xr_sld 798 C S h797 dL_law_797 rfl ?_
  refine xr_aload_n 799 0 C dL_law_798 rfl rfl rfl ?_
  refine xr_iload_n 800 3 C dL_law_799 rfl rfl rfl ?_
  refine xr_iconst 801 C (v := 2) dL_law_800 (by decide) rfl ?_
  refine xr_iadd 802 C dL_law_801 rfl ?_
  obtain ⟨x802, h802, hf⟩ := mm_bd_e hf
  refine xr_sld 803 C S h802 dL_law_802 rfl ?_
  obtain ⟨u803, g803, hf⟩ := mm_bd_e hf
  obtain ⟨hc18, hf⟩ := mm_gd_e hf
  obtain ⟨x803, h803, hf⟩ := mm_bd_e hf
  refine xr_callV 806 C [mm_i x797, mm_i x802] cm_L_98 (fun l G cy => c_X9_put l G cy h803) g803 rfl rfl ⟨⟨Nat.le_of_ble_eq_true rfl, Nat.le_of_ble_eq_true rfl⟩, (by omega), (by omega)⟩ (Nat.le_of_ble_eq_true rfl) dL_law_803 rfl ?_
  refine xr_aload_n 807 2 C dL_law_806 rfl rfl rfl ?_
  refine xr_aload_n 808 0 C dL_law_807 rfl rfl rfl ?_
  refine xr_iload_n 809 3 C dL_law_808 rfl rfl rfl ?_
  refine xr_iconst 810 C (v := 1) dL_law_809 (by decide) rfl ?_
  refine xr_iadd 811 C dL_law_810 rfl ?_
  obtain ⟨x811, h811, hf⟩ := mm_bd_e hf
  refine xr_sld 812 C S h811 dL_law_811 rfl ?_
  refine xr_aload_n 813 0 C dL_law_812 rfl rfl rfl ?_
  refine xr_iload_n 814 3 C dL_law_813 rfl rfl rfl ?_
  refine xr_iconst 815 C (v := 2) dL_law_814 (by decide) rfl ?_
  refine xr_iadd 816 C dL_law_815 rfl ?_
  obtain ⟨x816, h816, hf⟩ := mm_bd_e hf
  refine xr_sld 817 C S h816 dL_law_816 rfl ?_
  obtain ⟨u817, g817, hf⟩ := mm_bd_e hf
  obtain ⟨x817, h817, hf⟩ := mm_bd_e hf
  refine xr_callV 820 C [mm_i x811, mm_i x816] cm_L_101 (fun l G cy => c_X10_put l G cy h817) g817 rfl rfl ⟨⟨Nat.le_of_ble_eq_true rfl, Nat.le_of_ble_eq_true rfl⟩, (by omega), (by omega)⟩ (Nat.le_of_ble_eq_true rfl) dL_law_817 rfl ?_
  refine xr_icmp_eq 1117 823 C dL_law_820 (by decide) rfl (fun hc => ?_) (fun hc => ?_)
  · replace hf := (if_pos hc).symm.trans hf
    refine xr_widen (k := (63 + 41 * c18 + 38)) (n := (52194 + 7185 * c18 + 6171)) (by omega) (by omega) ?_
    exact w_L_law_1117 C S hf ko
  · replace hf := (if_neg hc).symm.trans hf
    refine xr_sub [] (lv2 := []) rfl ?_
    obtain ⟨hcx, hf⟩ := mm_gd_e hf
    obtain ⟨z, hf2, rfl⟩ := mm_mp_e hf
    clear hf
    have hf := hf2
    clear hf2
    refine xr_widen (k := 21055) (n := 3730914) (by omega) (by omega) ?_
    exact w_L_law_823 C S hf ko
noncomputable def f_L_law_866 (sc : Option Nat) (xs : Nat → Int32) (L : Nat) (M : mm_M) : Option (Int32) :=
  some 0
set_option maxRecDepth 20000 in
theorem w_L_law_866 {g : mm_c} {nm : String} {sc : Option Nat} {xs : Nat → Int32} {L : Nat} (C : mm_ok g cL_law "LessonCardsLaw" (some .boolean) nm 4 11 398 600000 7302250) (S : mm_law g sc L xs) {M : mm_M} {res : Int32} (hf : f_L_law_866 sc xs L M = some res) (ko : (fun z : Int32 => z = 1) res) : mm_X g 21055 3730914 M 866 [] [] := by
  unfold f_L_law_866 at hf
  refine xr_iconst 867 C (v := 0) dL_law_866 (by decide) rfl ?_
  obtain rfl := Option.some.inj hf
  exact absurd ko (by decide)
noncomputable def f_L_law_825 (sc : Option Nat) (xs : Nat → Int32) (L : Nat) (M : mm_M) (c18 : Nat) (v1 : Option Nat) (v2 : Option Nat) (v3 : Int32) : Option ((Nat × mm_M × Int32) ⊕ (Int32)) :=
  (mm_sc xs L (v3 + 1)).bind fun x830 =>
  (mm_sc xs L (v3 + 2)).bind fun x835 =>
  (mm_sc xs L (v3 + 3)).bind fun x840 =>
  (mm_rc M v1 10).bind fun u841 =>
  mm_gd (c18 < 512) <|
  mm_b2 (f_X9_test M v1 x830 x835 x840) fun x841 M841 =>
  (mm_sc xs L (v3 + 1)).bind fun x849 =>
  (mm_sc xs L (v3 + 2)).bind fun x854 =>
  (mm_sc xs L (v3 + 3)).bind fun x859 =>
  (mm_rc M841 v2 11).bind fun u860 =>
  mm_b2 (f_X10_test M841 v2 x849 x854 x859) fun x860 M860 =>
  if x841 = x860 then f_L_law_1117 sc xs L M860 c18 v1 v2 v3 else mm_gd (c18 ≤ 512) (mm_mp (f_L_law_866 sc xs L M860))
set_option maxRecDepth 20000 in
theorem w_L_law_825 {g : mm_c} {nm : String} {sc : Option Nat} {xs : Nat → Int32} {L : Nat} (C : mm_ok g cL_law "LessonCardsLaw" (some .boolean) nm 4 11 398 600000 7302250) (S : mm_law g sc L xs) {M : mm_M} {c18 : Nat} {v1 : Option Nat} {v2 : Option Nat} {v3 : Int32} {res : (Nat × mm_M × Int32) ⊕ (Int32)} (hf : f_L_law_825 sc xs L M c18 v1 v2 v3 = some res) (ko : (mm_o (h_L_law_18 g sc v1 v2) (fun z : Int32 => z = 1)) res) : mm_X g (63 + 41 * c18) (52194 + 7185 * c18) M 825 [(0, mm_r sc), (1, mm_r v1), (2, mm_r v2), (3, mm_i v3)] [] := by
  unfold f_L_law_825 at hf
  refine xr_aload_n 826 1 C dL_law_825 rfl rfl rfl ?_
  refine xr_aload_n 827 0 C dL_law_826 rfl rfl rfl ?_
  refine xr_iload_n 828 3 C dL_law_827 rfl rfl rfl ?_
  refine xr_iconst 829 C (v := 1) dL_law_828 (by decide) rfl ?_
  refine xr_iadd 830 C dL_law_829 rfl ?_
  obtain ⟨x830, h830, hf⟩ := mm_bd_e hf
  refine xr_sld 831 C S h830 dL_law_830 rfl ?_
  refine xr_aload_n 832 0 C dL_law_831 rfl rfl rfl ?_
  refine xr_iload_n 833 3 C dL_law_832 rfl rfl rfl ?_
  refine xr_iconst 834 C (v := 2) dL_law_833 (by decide) rfl ?_
  refine xr_iadd 835 C dL_law_834 rfl ?_
  obtain ⟨x835, h835, hf⟩ := mm_bd_e hf
  refine xr_sld 836 C S h835 dL_law_835 rfl ?_
  refine xr_aload_n 837 0 C dL_law_836 rfl rfl rfl ?_
  refine xr_iload_n 838 3 C dL_law_837 rfl rfl rfl ?_
  refine xr_iconst 839 C (v := 3) dL_law_838 (by decide) rfl ?_
  refine xr_iadd 840 C dL_law_839 rfl ?_
  obtain ⟨x840, h840, hf⟩ := mm_bd_e hf
  refine xr_sld 841 C S h840 dL_law_840 rfl ?_
  obtain ⟨u841, g841, hf⟩ := mm_bd_e hf
  obtain ⟨hc18, hf⟩ := mm_gd_e hf
  obtain ⟨x841, M841, h841, hf⟩ := mm_b2_e hf
  refine xr_callV 844 C [mm_i x830, mm_i x835, mm_i x840] cm_L_102 (fun l G cy => c_X9_test l G cy h841) g841 rfl rfl ⟨⟨Nat.le_of_ble_eq_true rfl, Nat.le_of_ble_eq_true rfl⟩, (by omega), (by omega)⟩ (Nat.le_of_ble_eq_true rfl) dL_law_841 rfl ?_
  refine xr_aload_n 845 2 C dL_law_844 rfl rfl rfl ?_
  refine xr_aload_n 846 0 C dL_law_845 rfl rfl rfl ?_
  refine xr_iload_n 847 3 C dL_law_846 rfl rfl rfl ?_
  refine xr_iconst 848 C (v := 1) dL_law_847 (by decide) rfl ?_
  refine xr_iadd 849 C dL_law_848 rfl ?_
  obtain ⟨x849, h849, hf⟩ := mm_bd_e hf
  refine xr_sld 850 C S h849 dL_law_849 rfl ?_
  refine xr_aload_n 851 0 C dL_law_850 rfl rfl rfl ?_
  refine xr_iload_n 852 3 C dL_law_851 rfl rfl rfl ?_
  refine xr_iconst 853 C (v := 2) dL_law_852 (by decide) rfl ?_
  refine xr_iadd 854 C dL_law_853 rfl ?_
  obtain ⟨x854, h854, hf⟩ := mm_bd_e hf
  refine xr_sld 855 C S h854 dL_law_854 rfl ?_
  refine xr_aload_n 856 0 C dL_law_855 rfl rfl rfl ?_
  refine xr_iload_n 857 3 C dL_law_856 rfl rfl rfl ?_
  refine xr_iconst 858 C (v := 3) dL_law_857 (by decide) rfl ?_
  refine xr_iadd 859 C dL_law_858 rfl ?_
  obtain ⟨x859, h859, hf⟩ := mm_bd_e hf
  refine xr_sld 860 C S h859 dL_law_859 rfl ?_
  obtain ⟨u860, g860, hf⟩ := mm_bd_e hf
  obtain ⟨x860, M860, h860, hf⟩ := mm_b2_e hf
  refine xr_callV 863 C [mm_i x849, mm_i x854, mm_i x859] cm_L_105 (fun l G cy => c_X10_test l G cy h860) g860 rfl rfl ⟨⟨Nat.le_of_ble_eq_true rfl, Nat.le_of_ble_eq_true rfl⟩, (by omega), (by omega)⟩ (Nat.le_of_ble_eq_true rfl) dL_law_860 rfl ?_
  refine xr_icmp_eq 1117 866 C dL_law_863 (by decide) rfl (fun hc => ?_) (fun hc => ?_)
  · replace hf := (if_pos hc).symm.trans hf
    refine xr_widen (k := (63 + 41 * c18 + 38)) (n := (52194 + 7185 * c18 + 6171)) (by omega) (by omega) ?_
    exact w_L_law_1117 C S hf ko
  · replace hf := (if_neg hc).symm.trans hf
    refine xr_sub [] (lv2 := []) rfl ?_
    obtain ⟨hcx, hf⟩ := mm_gd_e hf
    obtain ⟨z, hf2, rfl⟩ := mm_mp_e hf
    clear hf
    have hf := hf2
    clear hf2
    refine xr_widen (k := 21055) (n := 3730914) (by omega) (by omega) ?_
    exact w_L_law_866 C S hf ko
noncomputable def f_L_law_899 (sc : Option Nat) (xs : Nat → Int32) (L : Nat) (M : mm_M) : Option (Int32) :=
  some 0
set_option maxRecDepth 20000 in
theorem w_L_law_899 {g : mm_c} {nm : String} {sc : Option Nat} {xs : Nat → Int32} {L : Nat} (C : mm_ok g cL_law "LessonCardsLaw" (some .boolean) nm 4 11 398 600000 7302250) (S : mm_law g sc L xs) {M : mm_M} {res : Int32} (hf : f_L_law_899 sc xs L M = some res) (ko : (fun z : Int32 => z = 1) res) : mm_X g 21055 3730914 M 899 [] [] := by
  unfold f_L_law_899 at hf
  refine xr_iconst 900 C (v := 0) dL_law_899 (by decide) rfl ?_
  obtain rfl := Option.some.inj hf
  exact absurd ko (by decide)
noncomputable def f_L_law_868 (sc : Option Nat) (xs : Nat → Int32) (L : Nat) (M : mm_M) (c18 : Nat) (v1 : Option Nat) (v2 : Option Nat) (v3 : Int32) : Option ((Nat × mm_M × Int32) ⊕ (Int32)) :=
  (mm_sc xs L (v3 + 1)).bind fun x873 =>
  (mm_sc xs L (v3 + 2)).bind fun x878 =>
  (mm_rc M v1 10).bind fun u879 =>
  mm_gd (c18 < 512) <|
  mm_b2 (f_X9_told M v1 x873 x878) fun x879 M879 =>
  (mm_sc xs L (v3 + 1)).bind fun x887 =>
  (mm_sc xs L (v3 + 2)).bind fun x892 =>
  (mm_rc M879 v2 11).bind fun u893 =>
  mm_b2 (f_X10_told M879 v2 x887 x892) fun x893 M893 =>
  if x879 = x893 then f_L_law_1117 sc xs L M893 c18 v1 v2 v3 else mm_gd (c18 ≤ 512) (mm_mp (f_L_law_899 sc xs L M893))
set_option maxRecDepth 20000 in
theorem w_L_law_868 {g : mm_c} {nm : String} {sc : Option Nat} {xs : Nat → Int32} {L : Nat} (C : mm_ok g cL_law "LessonCardsLaw" (some .boolean) nm 4 11 398 600000 7302250) (S : mm_law g sc L xs) {M : mm_M} {c18 : Nat} {v1 : Option Nat} {v2 : Option Nat} {v3 : Int32} {res : (Nat × mm_M × Int32) ⊕ (Int32)} (hf : f_L_law_868 sc xs L M c18 v1 v2 v3 = some res) (ko : (mm_o (h_L_law_18 g sc v1 v2) (fun z : Int32 => z = 1)) res) : mm_X g (63 + 41 * c18) (52194 + 7185 * c18) M 868 [(0, mm_r sc), (1, mm_r v1), (2, mm_r v2), (3, mm_i v3)] [] := by
  unfold f_L_law_868 at hf
  refine xr_aload_n 869 1 C dL_law_868 rfl rfl rfl ?_
  refine xr_aload_n 870 0 C dL_law_869 rfl rfl rfl ?_
  refine xr_iload_n 871 3 C dL_law_870 rfl rfl rfl ?_
  refine xr_iconst 872 C (v := 1) dL_law_871 (by decide) rfl ?_
  refine xr_iadd 873 C dL_law_872 rfl ?_
  obtain ⟨x873, h873, hf⟩ := mm_bd_e hf
  refine xr_sld 874 C S h873 dL_law_873 rfl ?_
  refine xr_aload_n 875 0 C dL_law_874 rfl rfl rfl ?_
  refine xr_iload_n 876 3 C dL_law_875 rfl rfl rfl ?_
  refine xr_iconst 877 C (v := 2) dL_law_876 (by decide) rfl ?_
  refine xr_iadd 878 C dL_law_877 rfl ?_
  obtain ⟨x878, h878, hf⟩ := mm_bd_e hf
  refine xr_sld 879 C S h878 dL_law_878 rfl ?_
  obtain ⟨u879, g879, hf⟩ := mm_bd_e hf
  obtain ⟨hc18, hf⟩ := mm_gd_e hf
  obtain ⟨x879, M879, h879, hf⟩ := mm_b2_e hf
  refine xr_callV 882 C [mm_i x873, mm_i x878] cm_L_106 (fun l G cy => c_X9_told l G cy h879) g879 rfl rfl ⟨⟨Nat.le_of_ble_eq_true rfl, Nat.le_of_ble_eq_true rfl⟩, (by omega), (by omega)⟩ (Nat.le_of_ble_eq_true rfl) dL_law_879 rfl ?_
  refine xr_aload_n 883 2 C dL_law_882 rfl rfl rfl ?_
  refine xr_aload_n 884 0 C dL_law_883 rfl rfl rfl ?_
  refine xr_iload_n 885 3 C dL_law_884 rfl rfl rfl ?_
  refine xr_iconst 886 C (v := 1) dL_law_885 (by decide) rfl ?_
  refine xr_iadd 887 C dL_law_886 rfl ?_
  obtain ⟨x887, h887, hf⟩ := mm_bd_e hf
  refine xr_sld 888 C S h887 dL_law_887 rfl ?_
  refine xr_aload_n 889 0 C dL_law_888 rfl rfl rfl ?_
  refine xr_iload_n 890 3 C dL_law_889 rfl rfl rfl ?_
  refine xr_iconst 891 C (v := 2) dL_law_890 (by decide) rfl ?_
  refine xr_iadd 892 C dL_law_891 rfl ?_
  obtain ⟨x892, h892, hf⟩ := mm_bd_e hf
  refine xr_sld 893 C S h892 dL_law_892 rfl ?_
  obtain ⟨u893, g893, hf⟩ := mm_bd_e hf
  obtain ⟨x893, M893, h893, hf⟩ := mm_b2_e hf
  refine xr_callV 896 C [mm_i x887, mm_i x892] cm_L_109 (fun l G cy => c_X10_told l G cy h893) g893 rfl rfl ⟨⟨Nat.le_of_ble_eq_true rfl, Nat.le_of_ble_eq_true rfl⟩, (by omega), (by omega)⟩ (Nat.le_of_ble_eq_true rfl) dL_law_893 rfl ?_
  refine xr_icmp_eq 1117 899 C dL_law_896 (by decide) rfl (fun hc => ?_) (fun hc => ?_)
  · replace hf := (if_pos hc).symm.trans hf
    refine xr_widen (k := (63 + 41 * c18 + 38)) (n := (52194 + 7185 * c18 + 6171)) (by omega) (by omega) ?_
    exact w_L_law_1117 C S hf ko
  · replace hf := (if_neg hc).symm.trans hf
    refine xr_sub [] (lv2 := []) rfl ?_
    obtain ⟨hcx, hf⟩ := mm_gd_e hf
    obtain ⟨z, hf2, rfl⟩ := mm_mp_e hf
    clear hf
    have hf := hf2
    clear hf2
    refine xr_widen (k := 21055) (n := 3730914) (by omega) (by omega) ?_
    exact w_L_law_899 C S hf ko
noncomputable def f_L_law_923 (sc : Option Nat) (xs : Nat → Int32) (L : Nat) (M : mm_M) : Option (Int32) :=
  some 0
set_option maxRecDepth 20000 in
theorem w_L_law_923 {g : mm_c} {nm : String} {sc : Option Nat} {xs : Nat → Int32} {L : Nat} (C : mm_ok g cL_law "LessonCardsLaw" (some .boolean) nm 4 11 398 600000 7302250) (S : mm_law g sc L xs) {M : mm_M} {res : Int32} (hf : f_L_law_923 sc xs L M = some res) (ko : (fun z : Int32 => z = 1) res) : mm_X g 21055 3730914 M 923 [] [] := by
  unfold f_L_law_923 at hf
  refine xr_iconst 924 C (v := 0) dL_law_923 (by decide) rfl ?_
  obtain rfl := Option.some.inj hf
  exact absurd ko (by decide)
noncomputable def f_L_law_901 (sc : Option Nat) (xs : Nat → Int32) (L : Nat) (M : mm_M) (c18 : Nat) (v1 : Option Nat) (v2 : Option Nat) (v3 : Int32) : Option ((Nat × mm_M × Int32) ⊕ (Int32)) :=
  (mm_sc xs L (v3 + 1)).bind fun x906 =>
  (mm_rc M v1 10).bind fun u907 =>
  mm_gd (c18 < 512) <|
  (f_X9_weight M v1 x906).bind fun x907 =>
  (mm_sc xs L (v3 + 1)).bind fun x915 =>
  (mm_rc M v2 11).bind fun u916 =>
  (f_X10_weight M v2 x915).bind fun x916 =>
  if (lg_cmp x907 x916) = 0 then f_L_law_1117 sc xs L M c18 v1 v2 v3 else mm_gd (c18 ≤ 512) (mm_mp (f_L_law_923 sc xs L M))
set_option maxRecDepth 20000 in
theorem w_L_law_901 {g : mm_c} {nm : String} {sc : Option Nat} {xs : Nat → Int32} {L : Nat} (C : mm_ok g cL_law "LessonCardsLaw" (some .boolean) nm 4 11 398 600000 7302250) (S : mm_law g sc L xs) {M : mm_M} {c18 : Nat} {v1 : Option Nat} {v2 : Option Nat} {v3 : Int32} {res : (Nat × mm_M × Int32) ⊕ (Int32)} (hf : f_L_law_901 sc xs L M c18 v1 v2 v3 = some res) (ko : (mm_o (h_L_law_18 g sc v1 v2) (fun z : Int32 => z = 1)) res) : mm_X g (63 + 41 * c18) (52194 + 7185 * c18) M 901 [(0, mm_r sc), (1, mm_r v1), (2, mm_r v2), (3, mm_i v3)] [] := by
  unfold f_L_law_901 at hf
  refine xr_aload_n 902 1 C dL_law_901 rfl rfl rfl ?_
  refine xr_aload_n 903 0 C dL_law_902 rfl rfl rfl ?_
  refine xr_iload_n 904 3 C dL_law_903 rfl rfl rfl ?_
  refine xr_iconst 905 C (v := 1) dL_law_904 (by decide) rfl ?_
  refine xr_iadd 906 C dL_law_905 rfl ?_
  obtain ⟨x906, h906, hf⟩ := mm_bd_e hf
  refine xr_sld 907 C S h906 dL_law_906 rfl ?_
  obtain ⟨u907, g907, hf⟩ := mm_bd_e hf
  obtain ⟨hc18, hf⟩ := mm_gd_e hf
  obtain ⟨x907, h907, hf⟩ := mm_bd_e hf
  refine xr_callV 910 C [mm_i x906] cm_L_110 (fun l G cy => c_X9_weight l G cy h907) g907 rfl rfl ⟨⟨Nat.le_of_ble_eq_true rfl, Nat.le_of_ble_eq_true rfl⟩, (by omega), (by omega)⟩ (Nat.le_of_ble_eq_true rfl) dL_law_907 rfl ?_
  refine xr_aload_n 911 2 C dL_law_910 rfl rfl rfl ?_
  refine xr_aload_n 912 0 C dL_law_911 rfl rfl rfl ?_
  refine xr_iload_n 913 3 C dL_law_912 rfl rfl rfl ?_
  refine xr_iconst 914 C (v := 1) dL_law_913 (by decide) rfl ?_
  refine xr_iadd 915 C dL_law_914 rfl ?_
  obtain ⟨x915, h915, hf⟩ := mm_bd_e hf
  refine xr_sld 916 C S h915 dL_law_915 rfl ?_
  obtain ⟨u916, g916, hf⟩ := mm_bd_e hf
  obtain ⟨x916, h916, hf⟩ := mm_bd_e hf
  refine xr_callV 919 C [mm_i x915] cm_L_114 (fun l G cy => c_X10_weight l G cy h916) g916 rfl rfl ⟨⟨Nat.le_of_ble_eq_true rfl, Nat.le_of_ble_eq_true rfl⟩, (by omega), (by omega)⟩ (Nat.le_of_ble_eq_true rfl) dL_law_916 rfl ?_
  refine xr_lcmp 920 C dL_law_919 rfl ?_
  refine xr_if_eq 1117 923 C dL_law_920 (by decide) rfl (fun hc => ?_) (fun hc => ?_)
  · replace hf := (if_pos hc).symm.trans hf
    refine xr_widen (k := (63 + 41 * c18 + 38)) (n := (52194 + 7185 * c18 + 6171)) (by omega) (by omega) ?_
    exact w_L_law_1117 C S hf ko
  · replace hf := (if_neg hc).symm.trans hf
    refine xr_sub [] (lv2 := []) rfl ?_
    obtain ⟨hcx, hf⟩ := mm_gd_e hf
    obtain ⟨z, hf2, rfl⟩ := mm_mp_e hf
    clear hf
    have hf := hf2
    clear hf2
    refine xr_widen (k := 21055) (n := 3730914) (by omega) (by omega) ?_
    exact w_L_law_923 C S hf ko
noncomputable def f_L_law_936 (sc : Option Nat) (xs : Nat → Int32) (L : Nat) (M : mm_M) : Option (Int32) :=
  some 0
set_option maxRecDepth 20000 in
theorem w_L_law_936 {g : mm_c} {nm : String} {sc : Option Nat} {xs : Nat → Int32} {L : Nat} (C : mm_ok g cL_law "LessonCardsLaw" (some .boolean) nm 4 11 398 600000 7302250) (S : mm_law g sc L xs) {M : mm_M} {res : Int32} (hf : f_L_law_936 sc xs L M = some res) (ko : (fun z : Int32 => z = 1) res) : mm_X g 21055 3730914 M 936 [] [] := by
  unfold f_L_law_936 at hf
  refine xr_iconst 937 C (v := 0) dL_law_936 (by decide) rfl ?_
  obtain rfl := Option.some.inj hf
  exact absurd ko (by decide)
noncomputable def f_L_law_925 (sc : Option Nat) (xs : Nat → Int32) (L : Nat) (M : mm_M) (c18 : Nat) (v1 : Option Nat) (v2 : Option Nat) (v3 : Int32) : Option ((Nat × mm_M × Int32) ⊕ (Int32)) :=
  (mm_rc M v1 10).bind fun u926 =>
  mm_gd (c18 < 512) <|
  (f_X9_level M v1).bind fun x926 =>
  (mm_rc M v2 11).bind fun u930 =>
  (f_X10_level M v2).bind fun x930 =>
  if x926 = x930 then f_L_law_1117 sc xs L M c18 v1 v2 v3 else mm_gd (c18 ≤ 512) (mm_mp (f_L_law_936 sc xs L M))
set_option maxRecDepth 20000 in
theorem w_L_law_925 {g : mm_c} {nm : String} {sc : Option Nat} {xs : Nat → Int32} {L : Nat} (C : mm_ok g cL_law "LessonCardsLaw" (some .boolean) nm 4 11 398 600000 7302250) (S : mm_law g sc L xs) {M : mm_M} {c18 : Nat} {v1 : Option Nat} {v2 : Option Nat} {v3 : Int32} {res : (Nat × mm_M × Int32) ⊕ (Int32)} (hf : f_L_law_925 sc xs L M c18 v1 v2 v3 = some res) (ko : (mm_o (h_L_law_18 g sc v1 v2) (fun z : Int32 => z = 1)) res) : mm_X g (63 + 41 * c18) (52194 + 7185 * c18) M 925 [(0, mm_r sc), (1, mm_r v1), (2, mm_r v2), (3, mm_i v3)] [] := by
  unfold f_L_law_925 at hf
  refine xr_aload_n 926 1 C dL_law_925 rfl rfl rfl ?_
  obtain ⟨u926, g926, hf⟩ := mm_bd_e hf
  obtain ⟨hc18, hf⟩ := mm_gd_e hf
  obtain ⟨x926, h926, hf⟩ := mm_bd_e hf
  refine xr_callV 929 C [] cm_L_115 (fun l G cy => c_X9_level l G cy h926) g926 rfl rfl ⟨⟨Nat.le_of_ble_eq_true rfl, Nat.le_of_ble_eq_true rfl⟩, (by omega), (by omega)⟩ (Nat.le_of_ble_eq_true rfl) dL_law_926 rfl ?_
  refine xr_aload_n 930 2 C dL_law_929 rfl rfl rfl ?_
  obtain ⟨u930, g930, hf⟩ := mm_bd_e hf
  obtain ⟨x930, h930, hf⟩ := mm_bd_e hf
  refine xr_callV 933 C [] cm_L_118 (fun l G cy => c_X10_level l G cy h930) g930 rfl rfl ⟨⟨Nat.le_of_ble_eq_true rfl, Nat.le_of_ble_eq_true rfl⟩, (by omega), (by omega)⟩ (Nat.le_of_ble_eq_true rfl) dL_law_930 rfl ?_
  refine xr_icmp_eq 1117 936 C dL_law_933 (by decide) rfl (fun hc => ?_) (fun hc => ?_)
  · replace hf := (if_pos hc).symm.trans hf
    refine xr_widen (k := (63 + 41 * c18 + 38)) (n := (52194 + 7185 * c18 + 6171)) (by omega) (by omega) ?_
    exact w_L_law_1117 C S hf ko
  · replace hf := (if_neg hc).symm.trans hf
    refine xr_sub [] (lv2 := []) rfl ?_
    obtain ⟨hcx, hf⟩ := mm_gd_e hf
    obtain ⟨z, hf2, rfl⟩ := mm_mp_e hf
    clear hf
    have hf := hf2
    clear hf2
    refine xr_widen (k := 21055) (n := 3730914) (by omega) (by omega) ?_
    exact w_L_law_936 C S hf ko
noncomputable def f_L_law_949 (sc : Option Nat) (xs : Nat → Int32) (L : Nat) (M : mm_M) : Option (Int32) :=
  some 0
set_option maxRecDepth 20000 in
theorem w_L_law_949 {g : mm_c} {nm : String} {sc : Option Nat} {xs : Nat → Int32} {L : Nat} (C : mm_ok g cL_law "LessonCardsLaw" (some .boolean) nm 4 11 398 600000 7302250) (S : mm_law g sc L xs) {M : mm_M} {res : Int32} (hf : f_L_law_949 sc xs L M = some res) (ko : (fun z : Int32 => z = 1) res) : mm_X g 21055 3730914 M 949 [] [] := by
  unfold f_L_law_949 at hf
  refine xr_iconst 950 C (v := 0) dL_law_949 (by decide) rfl ?_
  obtain rfl := Option.some.inj hf
  exact absurd ko (by decide)
noncomputable def f_L_law_938 (sc : Option Nat) (xs : Nat → Int32) (L : Nat) (M : mm_M) (c18 : Nat) (v1 : Option Nat) (v2 : Option Nat) (v3 : Int32) : Option ((Nat × mm_M × Int32) ⊕ (Int32)) :=
  (mm_rc M v1 10).bind fun u939 =>
  mm_gd (c18 < 512) <|
  (f_X9_log M v1).bind fun x939 =>
  (mm_rc M v2 11).bind fun u943 =>
  (f_X10_log M v2).bind fun x943 =>
  if x939 = x943 then f_L_law_1117 sc xs L M c18 v1 v2 v3 else mm_gd (c18 ≤ 512) (mm_mp (f_L_law_949 sc xs L M))
set_option maxRecDepth 20000 in
theorem w_L_law_938 {g : mm_c} {nm : String} {sc : Option Nat} {xs : Nat → Int32} {L : Nat} (C : mm_ok g cL_law "LessonCardsLaw" (some .boolean) nm 4 11 398 600000 7302250) (S : mm_law g sc L xs) {M : mm_M} {c18 : Nat} {v1 : Option Nat} {v2 : Option Nat} {v3 : Int32} {res : (Nat × mm_M × Int32) ⊕ (Int32)} (hf : f_L_law_938 sc xs L M c18 v1 v2 v3 = some res) (ko : (mm_o (h_L_law_18 g sc v1 v2) (fun z : Int32 => z = 1)) res) : mm_X g (63 + 41 * c18) (52194 + 7185 * c18) M 938 [(0, mm_r sc), (1, mm_r v1), (2, mm_r v2), (3, mm_i v3)] [] := by
  unfold f_L_law_938 at hf
  refine xr_aload_n 939 1 C dL_law_938 rfl rfl rfl ?_
  obtain ⟨u939, g939, hf⟩ := mm_bd_e hf
  obtain ⟨hc18, hf⟩ := mm_gd_e hf
  obtain ⟨x939, h939, hf⟩ := mm_bd_e hf
  refine xr_callV 942 C [] cm_L_119 (fun l G cy => c_X9_log l G cy h939) g939 rfl rfl ⟨⟨Nat.le_of_ble_eq_true rfl, Nat.le_of_ble_eq_true rfl⟩, (by omega), (by omega)⟩ (Nat.le_of_ble_eq_true rfl) dL_law_939 rfl ?_
  refine xr_aload_n 943 2 C dL_law_942 rfl rfl rfl ?_
  obtain ⟨u943, g943, hf⟩ := mm_bd_e hf
  obtain ⟨x943, h943, hf⟩ := mm_bd_e hf
  refine xr_callV 946 C [] cm_L_122 (fun l G cy => c_X10_log l G cy h943) g943 rfl rfl ⟨⟨Nat.le_of_ble_eq_true rfl, Nat.le_of_ble_eq_true rfl⟩, (by omega), (by omega)⟩ (Nat.le_of_ble_eq_true rfl) dL_law_943 rfl ?_
  refine xr_icmp_eq 1117 949 C dL_law_946 (by decide) rfl (fun hc => ?_) (fun hc => ?_)
  · replace hf := (if_pos hc).symm.trans hf
    refine xr_widen (k := (63 + 41 * c18 + 38)) (n := (52194 + 7185 * c18 + 6171)) (by omega) (by omega) ?_
    exact w_L_law_1117 C S hf ko
  · replace hf := (if_neg hc).symm.trans hf
    refine xr_sub [] (lv2 := []) rfl ?_
    obtain ⟨hcx, hf⟩ := mm_gd_e hf
    obtain ⟨z, hf2, rfl⟩ := mm_mp_e hf
    clear hf
    have hf := hf2
    clear hf2
    refine xr_widen (k := 21055) (n := 3730914) (by omega) (by omega) ?_
    exact w_L_law_949 C S hf ko
noncomputable def f_L_law_982 (sc : Option Nat) (xs : Nat → Int32) (L : Nat) (M : mm_M) : Option (Int32) :=
  some 0
set_option maxRecDepth 20000 in
theorem w_L_law_982 {g : mm_c} {nm : String} {sc : Option Nat} {xs : Nat → Int32} {L : Nat} (C : mm_ok g cL_law "LessonCardsLaw" (some .boolean) nm 4 11 398 600000 7302250) (S : mm_law g sc L xs) {M : mm_M} {res : Int32} (hf : f_L_law_982 sc xs L M = some res) (ko : (fun z : Int32 => z = 1) res) : mm_X g 21055 3730914 M 982 [] [] := by
  unfold f_L_law_982 at hf
  refine xr_iconst 983 C (v := 0) dL_law_982 (by decide) rfl ?_
  obtain rfl := Option.some.inj hf
  exact absurd ko (by decide)
noncomputable def f_L_law_951 (sc : Option Nat) (xs : Nat → Int32) (L : Nat) (M : mm_M) (c18 : Nat) (v1 : Option Nat) (v2 : Option Nat) (v3 : Int32) : Option ((Nat × mm_M × Int32) ⊕ (Int32)) :=
  (mm_sc xs L (v3 + 1)).bind fun x956 =>
  (mm_sc xs L (v3 + 2)).bind fun x961 =>
  (mm_rc M v1 10).bind fun u962 =>
  mm_gd (c18 < 512) <|
  (f_X9_logged M v1 x956 x961).bind fun x962 =>
  (mm_sc xs L (v3 + 1)).bind fun x970 =>
  (mm_sc xs L (v3 + 2)).bind fun x975 =>
  (mm_rc M v2 11).bind fun u976 =>
  (f_X10_logged M v2 x970 x975).bind fun x976 =>
  if x962 = x976 then f_L_law_1117 sc xs L M c18 v1 v2 v3 else mm_gd (c18 ≤ 512) (mm_mp (f_L_law_982 sc xs L M))
set_option maxRecDepth 20000 in
theorem w_L_law_951 {g : mm_c} {nm : String} {sc : Option Nat} {xs : Nat → Int32} {L : Nat} (C : mm_ok g cL_law "LessonCardsLaw" (some .boolean) nm 4 11 398 600000 7302250) (S : mm_law g sc L xs) {M : mm_M} {c18 : Nat} {v1 : Option Nat} {v2 : Option Nat} {v3 : Int32} {res : (Nat × mm_M × Int32) ⊕ (Int32)} (hf : f_L_law_951 sc xs L M c18 v1 v2 v3 = some res) (ko : (mm_o (h_L_law_18 g sc v1 v2) (fun z : Int32 => z = 1)) res) : mm_X g (63 + 41 * c18) (52194 + 7185 * c18) M 951 [(0, mm_r sc), (1, mm_r v1), (2, mm_r v2), (3, mm_i v3)] [] := by
  unfold f_L_law_951 at hf
  refine xr_aload_n 952 1 C dL_law_951 rfl rfl rfl ?_
  refine xr_aload_n 953 0 C dL_law_952 rfl rfl rfl ?_
  refine xr_iload_n 954 3 C dL_law_953 rfl rfl rfl ?_
  refine xr_iconst 955 C (v := 1) dL_law_954 (by decide) rfl ?_
  refine xr_iadd 956 C dL_law_955 rfl ?_
  obtain ⟨x956, h956, hf⟩ := mm_bd_e hf
  refine xr_sld 957 C S h956 dL_law_956 rfl ?_
  refine xr_aload_n 958 0 C dL_law_957 rfl rfl rfl ?_
  refine xr_iload_n 959 3 C dL_law_958 rfl rfl rfl ?_
  refine xr_iconst 960 C (v := 2) dL_law_959 (by decide) rfl ?_
  refine xr_iadd 961 C dL_law_960 rfl ?_
  obtain ⟨x961, h961, hf⟩ := mm_bd_e hf
  refine xr_sld 962 C S h961 dL_law_961 rfl ?_
  obtain ⟨u962, g962, hf⟩ := mm_bd_e hf
  obtain ⟨hc18, hf⟩ := mm_gd_e hf
  obtain ⟨x962, h962, hf⟩ := mm_bd_e hf
  refine xr_callV 965 C [mm_i x956, mm_i x961] cm_L_123 (fun l G cy => c_X9_logged l G cy h962) g962 rfl rfl ⟨⟨Nat.le_of_ble_eq_true rfl, Nat.le_of_ble_eq_true rfl⟩, (by omega), (by omega)⟩ (Nat.le_of_ble_eq_true rfl) dL_law_962 rfl ?_
  refine xr_aload_n 966 2 C dL_law_965 rfl rfl rfl ?_
  refine xr_aload_n 967 0 C dL_law_966 rfl rfl rfl ?_
  refine xr_iload_n 968 3 C dL_law_967 rfl rfl rfl ?_
  refine xr_iconst 969 C (v := 1) dL_law_968 (by decide) rfl ?_
  refine xr_iadd 970 C dL_law_969 rfl ?_
  obtain ⟨x970, h970, hf⟩ := mm_bd_e hf
  refine xr_sld 971 C S h970 dL_law_970 rfl ?_
  refine xr_aload_n 972 0 C dL_law_971 rfl rfl rfl ?_
  refine xr_iload_n 973 3 C dL_law_972 rfl rfl rfl ?_
  refine xr_iconst 974 C (v := 2) dL_law_973 (by decide) rfl ?_
  refine xr_iadd 975 C dL_law_974 rfl ?_
  obtain ⟨x975, h975, hf⟩ := mm_bd_e hf
  refine xr_sld 976 C S h975 dL_law_975 rfl ?_
  obtain ⟨u976, g976, hf⟩ := mm_bd_e hf
  obtain ⟨x976, h976, hf⟩ := mm_bd_e hf
  refine xr_callV 979 C [mm_i x970, mm_i x975] cm_L_126 (fun l G cy => c_X10_logged l G cy h976) g976 rfl rfl ⟨⟨Nat.le_of_ble_eq_true rfl, Nat.le_of_ble_eq_true rfl⟩, (by omega), (by omega)⟩ (Nat.le_of_ble_eq_true rfl) dL_law_976 rfl ?_
  refine xr_icmp_eq 1117 982 C dL_law_979 (by decide) rfl (fun hc => ?_) (fun hc => ?_)
  · replace hf := (if_pos hc).symm.trans hf
    refine xr_widen (k := (63 + 41 * c18 + 38)) (n := (52194 + 7185 * c18 + 6171)) (by omega) (by omega) ?_
    exact w_L_law_1117 C S hf ko
  · replace hf := (if_neg hc).symm.trans hf
    refine xr_sub [] (lv2 := []) rfl ?_
    obtain ⟨hcx, hf⟩ := mm_gd_e hf
    obtain ⟨z, hf2, rfl⟩ := mm_mp_e hf
    clear hf
    have hf := hf2
    clear hf2
    refine xr_widen (k := 21055) (n := 3730914) (by omega) (by omega) ?_
    exact w_L_law_982 C S hf ko
noncomputable def f_L_law_1016 (sc : Option Nat) (xs : Nat → Int32) (L : Nat) (M : mm_M) : Option (Int32) :=
  some 0
set_option maxRecDepth 20000 in
theorem w_L_law_1016 {g : mm_c} {nm : String} {sc : Option Nat} {xs : Nat → Int32} {L : Nat} (C : mm_ok g cL_law "LessonCardsLaw" (some .boolean) nm 4 11 398 600000 7302250) (S : mm_law g sc L xs) {M : mm_M} {res : Int32} (hf : f_L_law_1016 sc xs L M = some res) (ko : (fun z : Int32 => z = 1) res) : mm_X g 21055 3730914 M 1016 [] [] := by
  unfold f_L_law_1016 at hf
  refine xr_iconst 1017 C (v := 0) dL_law_1016 (by decide) rfl ?_
  obtain rfl := Option.some.inj hf
  exact absurd ko (by decide)
noncomputable def f_L_law_984 (sc : Option Nat) (xs : Nat → Int32) (L : Nat) (M : mm_M) (c18 : Nat) (v1 : Option Nat) (v2 : Option Nat) (v3 : Int32) : Option ((Nat × mm_M × Int32) ⊕ (Int32)) :=
  (mm_sc xs L (v3 + 1)).bind fun x989 =>
  (mm_sc xs L (v3 + 2)).bind fun x994 =>
  (mm_rc M v1 10).bind fun u995 =>
  mm_gd (c18 < 512) <|
  mm_b2 (f_X9_surprise M v1 x989 x994) fun x995 M995 =>
  (mm_sc xs L (v3 + 1)).bind fun x1003 =>
  (mm_sc xs L (v3 + 2)).bind fun x1008 =>
  (mm_rc M995 v2 11).bind fun u1009 =>
  mm_b2 (f_X10_surprise M995 v2 x1003 x1008) fun x1009 M1009 =>
  if (lg_cmp x995 x1009) = 0 then f_L_law_1117 sc xs L M1009 c18 v1 v2 v3 else mm_gd (c18 ≤ 512) (mm_mp (f_L_law_1016 sc xs L M1009))
set_option maxRecDepth 20000 in
theorem w_L_law_984 {g : mm_c} {nm : String} {sc : Option Nat} {xs : Nat → Int32} {L : Nat} (C : mm_ok g cL_law "LessonCardsLaw" (some .boolean) nm 4 11 398 600000 7302250) (S : mm_law g sc L xs) {M : mm_M} {c18 : Nat} {v1 : Option Nat} {v2 : Option Nat} {v3 : Int32} {res : (Nat × mm_M × Int32) ⊕ (Int32)} (hf : f_L_law_984 sc xs L M c18 v1 v2 v3 = some res) (ko : (mm_o (h_L_law_18 g sc v1 v2) (fun z : Int32 => z = 1)) res) : mm_X g (63 + 41 * c18) (52194 + 7185 * c18) M 984 [(0, mm_r sc), (1, mm_r v1), (2, mm_r v2), (3, mm_i v3)] [] := by
  unfold f_L_law_984 at hf
  refine xr_aload_n 985 1 C dL_law_984 rfl rfl rfl ?_
  refine xr_aload_n 986 0 C dL_law_985 rfl rfl rfl ?_
  refine xr_iload_n 987 3 C dL_law_986 rfl rfl rfl ?_
  refine xr_iconst 988 C (v := 1) dL_law_987 (by decide) rfl ?_
  refine xr_iadd 989 C dL_law_988 rfl ?_
  obtain ⟨x989, h989, hf⟩ := mm_bd_e hf
  refine xr_sld 990 C S h989 dL_law_989 rfl ?_
  refine xr_aload_n 991 0 C dL_law_990 rfl rfl rfl ?_
  refine xr_iload_n 992 3 C dL_law_991 rfl rfl rfl ?_
  refine xr_iconst 993 C (v := 2) dL_law_992 (by decide) rfl ?_
  refine xr_iadd 994 C dL_law_993 rfl ?_
  obtain ⟨x994, h994, hf⟩ := mm_bd_e hf
  refine xr_sld 995 C S h994 dL_law_994 rfl ?_
  obtain ⟨u995, g995, hf⟩ := mm_bd_e hf
  obtain ⟨hc18, hf⟩ := mm_gd_e hf
  obtain ⟨x995, M995, h995, hf⟩ := mm_b2_e hf
  refine xr_callV 998 C [mm_i x989, mm_i x994] cm_L_127 (fun l G cy => c_X9_surprise l G cy h995) g995 rfl rfl ⟨⟨Nat.le_of_ble_eq_true rfl, Nat.le_of_ble_eq_true rfl⟩, (by omega), (by omega)⟩ (Nat.le_of_ble_eq_true rfl) dL_law_995 rfl ?_
  refine xr_aload_n 999 2 C dL_law_998 rfl rfl rfl ?_
  refine xr_aload_n 1000 0 C dL_law_999 rfl rfl rfl ?_
  refine xr_iload_n 1001 3 C dL_law_1000 rfl rfl rfl ?_
  refine xr_iconst 1002 C (v := 1) dL_law_1001 (by decide) rfl ?_
  refine xr_iadd 1003 C dL_law_1002 rfl ?_
  obtain ⟨x1003, h1003, hf⟩ := mm_bd_e hf
  refine xr_sld 1004 C S h1003 dL_law_1003 rfl ?_
  refine xr_aload_n 1005 0 C dL_law_1004 rfl rfl rfl ?_
  refine xr_iload_n 1006 3 C dL_law_1005 rfl rfl rfl ?_
  refine xr_iconst 1007 C (v := 2) dL_law_1006 (by decide) rfl ?_
  refine xr_iadd 1008 C dL_law_1007 rfl ?_
  obtain ⟨x1008, h1008, hf⟩ := mm_bd_e hf
  refine xr_sld 1009 C S h1008 dL_law_1008 rfl ?_
  obtain ⟨u1009, g1009, hf⟩ := mm_bd_e hf
  obtain ⟨x1009, M1009, h1009, hf⟩ := mm_b2_e hf
  refine xr_callV 1012 C [mm_i x1003, mm_i x1008] cm_L_131 (fun l G cy => c_X10_surprise l G cy h1009) g1009 rfl rfl ⟨⟨Nat.le_of_ble_eq_true rfl, Nat.le_of_ble_eq_true rfl⟩, (by omega), (by omega)⟩ (Nat.le_of_ble_eq_true rfl) dL_law_1009 rfl ?_
  refine xr_lcmp 1013 C dL_law_1012 rfl ?_
  refine xr_if_eq 1117 1016 C dL_law_1013 (by decide) rfl (fun hc => ?_) (fun hc => ?_)
  · replace hf := (if_pos hc).symm.trans hf
    refine xr_widen (k := (63 + 41 * c18 + 38)) (n := (52194 + 7185 * c18 + 6171)) (by omega) (by omega) ?_
    exact w_L_law_1117 C S hf ko
  · replace hf := (if_neg hc).symm.trans hf
    refine xr_sub [] (lv2 := []) rfl ?_
    obtain ⟨hcx, hf⟩ := mm_gd_e hf
    obtain ⟨z, hf2, rfl⟩ := mm_mp_e hf
    clear hf
    have hf := hf2
    clear hf2
    refine xr_widen (k := 21055) (n := 3730914) (by omega) (by omega) ?_
    exact w_L_law_1016 C S hf ko
noncomputable def f_L_law_1039 (sc : Option Nat) (xs : Nat → Int32) (L : Nat) (M : mm_M) : Option (Int32) :=
  some 0
set_option maxRecDepth 20000 in
theorem w_L_law_1039 {g : mm_c} {nm : String} {sc : Option Nat} {xs : Nat → Int32} {L : Nat} (C : mm_ok g cL_law "LessonCardsLaw" (some .boolean) nm 4 11 398 600000 7302250) (S : mm_law g sc L xs) {M : mm_M} {res : Int32} (hf : f_L_law_1039 sc xs L M = some res) (ko : (fun z : Int32 => z = 1) res) : mm_X g 21055 3730914 M 1039 [] [] := by
  unfold f_L_law_1039 at hf
  refine xr_iconst 1040 C (v := 0) dL_law_1039 (by decide) rfl ?_
  obtain rfl := Option.some.inj hf
  exact absurd ko (by decide)
noncomputable def f_L_law_1018 (sc : Option Nat) (xs : Nat → Int32) (L : Nat) (M : mm_M) (c18 : Nat) (v1 : Option Nat) (v2 : Option Nat) (v3 : Int32) : Option ((Nat × mm_M × Int32) ⊕ (Int32)) :=
  (mm_sc xs L (v3 + 1)).bind fun x1023 =>
  (mm_rc M v1 10).bind fun u1024 =>
  mm_gd (c18 < 512) <|
  mm_b2 (f_X9_better M v1 x1023) fun x1024 M1024 =>
  (mm_sc xs L (v3 + 1)).bind fun x1032 =>
  (mm_rc M1024 v2 11).bind fun u1033 =>
  mm_b2 (f_X10_better M1024 v2 x1032) fun x1033 M1033 =>
  if x1024 = x1033 then f_L_law_1117 sc xs L M1033 c18 v1 v2 v3 else mm_gd (c18 ≤ 512) (mm_mp (f_L_law_1039 sc xs L M1033))
set_option maxRecDepth 20000 in
theorem w_L_law_1018 {g : mm_c} {nm : String} {sc : Option Nat} {xs : Nat → Int32} {L : Nat} (C : mm_ok g cL_law "LessonCardsLaw" (some .boolean) nm 4 11 398 600000 7302250) (S : mm_law g sc L xs) {M : mm_M} {c18 : Nat} {v1 : Option Nat} {v2 : Option Nat} {v3 : Int32} {res : (Nat × mm_M × Int32) ⊕ (Int32)} (hf : f_L_law_1018 sc xs L M c18 v1 v2 v3 = some res) (ko : (mm_o (h_L_law_18 g sc v1 v2) (fun z : Int32 => z = 1)) res) : mm_X g (63 + 41 * c18) (52194 + 7185 * c18) M 1018 [(0, mm_r sc), (1, mm_r v1), (2, mm_r v2), (3, mm_i v3)] [] := by
  unfold f_L_law_1018 at hf
  refine xr_aload_n 1019 1 C dL_law_1018 rfl rfl rfl ?_
  refine xr_aload_n 1020 0 C dL_law_1019 rfl rfl rfl ?_
  refine xr_iload_n 1021 3 C dL_law_1020 rfl rfl rfl ?_
  refine xr_iconst 1022 C (v := 1) dL_law_1021 (by decide) rfl ?_
  refine xr_iadd 1023 C dL_law_1022 rfl ?_
  obtain ⟨x1023, h1023, hf⟩ := mm_bd_e hf
  refine xr_sld 1024 C S h1023 dL_law_1023 rfl ?_
  obtain ⟨u1024, g1024, hf⟩ := mm_bd_e hf
  obtain ⟨hc18, hf⟩ := mm_gd_e hf
  obtain ⟨x1024, M1024, h1024, hf⟩ := mm_b2_e hf
  refine xr_callV 1027 C [mm_i x1023] cm_L_132 (fun l G cy => c_X9_better l G cy h1024) g1024 rfl rfl ⟨⟨Nat.le_of_ble_eq_true rfl, Nat.le_of_ble_eq_true rfl⟩, (by omega), (by omega)⟩ (Nat.le_of_ble_eq_true rfl) dL_law_1024 rfl ?_
  refine xr_aload_n 1028 2 C dL_law_1027 rfl rfl rfl ?_
  refine xr_aload_n 1029 0 C dL_law_1028 rfl rfl rfl ?_
  refine xr_iload_n 1030 3 C dL_law_1029 rfl rfl rfl ?_
  refine xr_iconst 1031 C (v := 1) dL_law_1030 (by decide) rfl ?_
  refine xr_iadd 1032 C dL_law_1031 rfl ?_
  obtain ⟨x1032, h1032, hf⟩ := mm_bd_e hf
  refine xr_sld 1033 C S h1032 dL_law_1032 rfl ?_
  obtain ⟨u1033, g1033, hf⟩ := mm_bd_e hf
  obtain ⟨x1033, M1033, h1033, hf⟩ := mm_b2_e hf
  refine xr_callV 1036 C [mm_i x1032] cm_L_135 (fun l G cy => c_X10_better l G cy h1033) g1033 rfl rfl ⟨⟨Nat.le_of_ble_eq_true rfl, Nat.le_of_ble_eq_true rfl⟩, (by omega), (by omega)⟩ (Nat.le_of_ble_eq_true rfl) dL_law_1033 rfl ?_
  refine xr_icmp_eq 1117 1039 C dL_law_1036 (by decide) rfl (fun hc => ?_) (fun hc => ?_)
  · replace hf := (if_pos hc).symm.trans hf
    refine xr_widen (k := (63 + 41 * c18 + 38)) (n := (52194 + 7185 * c18 + 6171)) (by omega) (by omega) ?_
    exact w_L_law_1117 C S hf ko
  · replace hf := (if_neg hc).symm.trans hf
    refine xr_sub [] (lv2 := []) rfl ?_
    obtain ⟨hcx, hf⟩ := mm_gd_e hf
    obtain ⟨z, hf2, rfl⟩ := mm_mp_e hf
    clear hf
    have hf := hf2
    clear hf2
    refine xr_widen (k := 21055) (n := 3730914) (by omega) (by omega) ?_
    exact w_L_law_1039 C S hf ko
noncomputable def f_L_law_1092 (sc : Option Nat) (xs : Nat → Int32) (L : Nat) (M : mm_M) : Option (Int32) :=
  some 0
set_option maxRecDepth 20000 in
theorem w_L_law_1092 {g : mm_c} {nm : String} {sc : Option Nat} {xs : Nat → Int32} {L : Nat} (C : mm_ok g cL_law "LessonCardsLaw" (some .boolean) nm 4 11 398 600000 7302250) (S : mm_law g sc L xs) {M : mm_M} {res : Int32} (hf : f_L_law_1092 sc xs L M = some res) (ko : (fun z : Int32 => z = 1) res) : mm_X g 21055 3730914 M 1092 [] [] := by
  unfold f_L_law_1092 at hf
  refine xr_iconst 1093 C (v := 0) dL_law_1092 (by decide) rfl ?_
  obtain rfl := Option.some.inj hf
  exact absurd ko (by decide)
noncomputable def f_L_law_1041 (sc : Option Nat) (xs : Nat → Int32) (L : Nat) (M : mm_M) (c18 : Nat) (v1 : Option Nat) (v2 : Option Nat) (v3 : Int32) : Option ((Nat × mm_M × Int32) ⊕ (Int32)) :=
  (mm_sc xs L (v3 + 1)).bind fun x1046 =>
  (mm_sc xs L (v3 + 2)).bind fun x1051 =>
  (mm_sc xs L (v3 + 3)).bind fun x1056 =>
  (mm_sc xs L (v3 + 4)).bind fun x1061 =>
  (mm_rc M v1 10).bind fun u1062 =>
  mm_gd (c18 < 512) <|
  mm_b2 (f_X9_other M v1 x1046 x1051 x1056 x1061) fun x1062 M1062 =>
  (mm_sc xs L (v3 + 1)).bind fun x1070 =>
  (mm_sc xs L (v3 + 2)).bind fun x1075 =>
  (mm_sc xs L (v3 + 3)).bind fun x1080 =>
  (mm_sc xs L (v3 + 4)).bind fun x1085 =>
  (mm_rc M1062 v2 11).bind fun u1086 =>
  mm_b2 (f_X10_other M1062 v2 x1070 x1075 x1080 x1085) fun x1086 M1086 =>
  if x1062 = x1086 then f_L_law_1117 sc xs L M1086 c18 v1 v2 v3 else mm_gd (c18 ≤ 512) (mm_mp (f_L_law_1092 sc xs L M1086))
set_option maxRecDepth 20000 in
theorem w_L_law_1041 {g : mm_c} {nm : String} {sc : Option Nat} {xs : Nat → Int32} {L : Nat} (C : mm_ok g cL_law "LessonCardsLaw" (some .boolean) nm 4 11 398 600000 7302250) (S : mm_law g sc L xs) {M : mm_M} {c18 : Nat} {v1 : Option Nat} {v2 : Option Nat} {v3 : Int32} {res : (Nat × mm_M × Int32) ⊕ (Int32)} (hf : f_L_law_1041 sc xs L M c18 v1 v2 v3 = some res) (ko : (mm_o (h_L_law_18 g sc v1 v2) (fun z : Int32 => z = 1)) res) : mm_X g (63 + 41 * c18) (52194 + 7185 * c18) M 1041 [(0, mm_r sc), (1, mm_r v1), (2, mm_r v2), (3, mm_i v3)] [] := by
  unfold f_L_law_1041 at hf
  refine xr_aload_n 1042 1 C dL_law_1041 rfl rfl rfl ?_
  refine xr_aload_n 1043 0 C dL_law_1042 rfl rfl rfl ?_
  refine xr_iload_n 1044 3 C dL_law_1043 rfl rfl rfl ?_
  refine xr_iconst 1045 C (v := 1) dL_law_1044 (by decide) rfl ?_
  refine xr_iadd 1046 C dL_law_1045 rfl ?_
  obtain ⟨x1046, h1046, hf⟩ := mm_bd_e hf
  refine xr_sld 1047 C S h1046 dL_law_1046 rfl ?_
  refine xr_aload_n 1048 0 C dL_law_1047 rfl rfl rfl ?_
  refine xr_iload_n 1049 3 C dL_law_1048 rfl rfl rfl ?_
  refine xr_iconst 1050 C (v := 2) dL_law_1049 (by decide) rfl ?_
  refine xr_iadd 1051 C dL_law_1050 rfl ?_
  obtain ⟨x1051, h1051, hf⟩ := mm_bd_e hf
  refine xr_sld 1052 C S h1051 dL_law_1051 rfl ?_
  refine xr_aload_n 1053 0 C dL_law_1052 rfl rfl rfl ?_
  refine xr_iload_n 1054 3 C dL_law_1053 rfl rfl rfl ?_
  refine xr_iconst 1055 C (v := 3) dL_law_1054 (by decide) rfl ?_
  refine xr_iadd 1056 C dL_law_1055 rfl ?_
  obtain ⟨x1056, h1056, hf⟩ := mm_bd_e hf
  refine xr_sld 1057 C S h1056 dL_law_1056 rfl ?_
  refine xr_aload_n 1058 0 C dL_law_1057 rfl rfl rfl ?_
  refine xr_iload_n 1059 3 C dL_law_1058 rfl rfl rfl ?_
  refine xr_iconst 1060 C (v := 4) dL_law_1059 (by decide) rfl ?_
  refine xr_iadd 1061 C dL_law_1060 rfl ?_
  obtain ⟨x1061, h1061, hf⟩ := mm_bd_e hf
  refine xr_sld 1062 C S h1061 dL_law_1061 rfl ?_
  obtain ⟨u1062, g1062, hf⟩ := mm_bd_e hf
  obtain ⟨hc18, hf⟩ := mm_gd_e hf
  obtain ⟨x1062, M1062, h1062, hf⟩ := mm_b2_e hf
  refine xr_callV 1065 C [mm_i x1046, mm_i x1051, mm_i x1056, mm_i x1061] cm_L_136 (fun l G cy => c_X9_other l G cy h1062) g1062 rfl rfl ⟨⟨Nat.le_of_ble_eq_true rfl, Nat.le_of_ble_eq_true rfl⟩, (by omega), (by omega)⟩ (Nat.le_of_ble_eq_true rfl) dL_law_1062 rfl ?_
  refine xr_aload_n 1066 2 C dL_law_1065 rfl rfl rfl ?_
  refine xr_aload_n 1067 0 C dL_law_1066 rfl rfl rfl ?_
  refine xr_iload_n 1068 3 C dL_law_1067 rfl rfl rfl ?_
  refine xr_iconst 1069 C (v := 1) dL_law_1068 (by decide) rfl ?_
  refine xr_iadd 1070 C dL_law_1069 rfl ?_
  obtain ⟨x1070, h1070, hf⟩ := mm_bd_e hf
  refine xr_sld 1071 C S h1070 dL_law_1070 rfl ?_
  refine xr_aload_n 1072 0 C dL_law_1071 rfl rfl rfl ?_
  refine xr_iload_n 1073 3 C dL_law_1072 rfl rfl rfl ?_
  refine xr_iconst 1074 C (v := 2) dL_law_1073 (by decide) rfl ?_
  refine xr_iadd 1075 C dL_law_1074 rfl ?_
  obtain ⟨x1075, h1075, hf⟩ := mm_bd_e hf
  refine xr_sld 1076 C S h1075 dL_law_1075 rfl ?_
  refine xr_aload_n 1077 0 C dL_law_1076 rfl rfl rfl ?_
  refine xr_iload_n 1078 3 C dL_law_1077 rfl rfl rfl ?_
  refine xr_iconst 1079 C (v := 3) dL_law_1078 (by decide) rfl ?_
  refine xr_iadd 1080 C dL_law_1079 rfl ?_
  obtain ⟨x1080, h1080, hf⟩ := mm_bd_e hf
  refine xr_sld 1081 C S h1080 dL_law_1080 rfl ?_
  refine xr_aload_n 1082 0 C dL_law_1081 rfl rfl rfl ?_
  refine xr_iload_n 1083 3 C dL_law_1082 rfl rfl rfl ?_
  refine xr_iconst 1084 C (v := 4) dL_law_1083 (by decide) rfl ?_
  refine xr_iadd 1085 C dL_law_1084 rfl ?_
  obtain ⟨x1085, h1085, hf⟩ := mm_bd_e hf
  refine xr_sld 1086 C S h1085 dL_law_1085 rfl ?_
  obtain ⟨u1086, g1086, hf⟩ := mm_bd_e hf
  obtain ⟨x1086, M1086, h1086, hf⟩ := mm_b2_e hf
  refine xr_callV 1089 C [mm_i x1070, mm_i x1075, mm_i x1080, mm_i x1085] cm_L_139 (fun l G cy => c_X10_other l G cy h1086) g1086 rfl rfl ⟨⟨Nat.le_of_ble_eq_true rfl, Nat.le_of_ble_eq_true rfl⟩, (by omega), (by omega)⟩ (Nat.le_of_ble_eq_true rfl) dL_law_1086 rfl ?_
  refine xr_icmp_eq 1117 1092 C dL_law_1089 (by decide) rfl (fun hc => ?_) (fun hc => ?_)
  · replace hf := (if_pos hc).symm.trans hf
    refine xr_widen (k := (63 + 41 * c18 + 38)) (n := (52194 + 7185 * c18 + 6171)) (by omega) (by omega) ?_
    exact w_L_law_1117 C S hf ko
  · replace hf := (if_neg hc).symm.trans hf
    refine xr_sub [] (lv2 := []) rfl ?_
    obtain ⟨hcx, hf⟩ := mm_gd_e hf
    obtain ⟨z, hf2, rfl⟩ := mm_mp_e hf
    clear hf
    have hf := hf2
    clear hf2
    refine xr_widen (k := 21055) (n := 3730914) (by omega) (by omega) ?_
    exact w_L_law_1092 C S hf ko
noncomputable def f_L_law_1115 (sc : Option Nat) (xs : Nat → Int32) (L : Nat) (M : mm_M) : Option (Int32) :=
  some 0
set_option maxRecDepth 20000 in
theorem w_L_law_1115 {g : mm_c} {nm : String} {sc : Option Nat} {xs : Nat → Int32} {L : Nat} (C : mm_ok g cL_law "LessonCardsLaw" (some .boolean) nm 4 11 398 600000 7302250) (S : mm_law g sc L xs) {M : mm_M} {res : Int32} (hf : f_L_law_1115 sc xs L M = some res) (ko : (fun z : Int32 => z = 1) res) : mm_X g 21055 3730914 M 1115 [] [] := by
  unfold f_L_law_1115 at hf
  refine xr_iconst 1116 C (v := 0) dL_law_1115 (by decide) rfl ?_
  obtain rfl := Option.some.inj hf
  exact absurd ko (by decide)
noncomputable def f_L_law_1094 (sc : Option Nat) (xs : Nat → Int32) (L : Nat) (M : mm_M) (c18 : Nat) (v1 : Option Nat) (v2 : Option Nat) (v3 : Int32) : Option ((Nat × mm_M × Int32) ⊕ (Int32)) :=
  (mm_sc xs L (v3 + 1)).bind fun x1099 =>
  (mm_rc M v1 10).bind fun u1100 =>
  mm_gd (c18 < 512) <|
  mm_b2 (f_X9_check M v1 x1099) fun x1100 M1100 =>
  (mm_sc xs L (v3 + 1)).bind fun x1108 =>
  (mm_rc M1100 v2 11).bind fun u1109 =>
  mm_b2 (f_X10_check M1100 v2 x1108) fun x1109 M1109 =>
  if x1100 = x1109 then f_L_law_1117 sc xs L M1109 c18 v1 v2 v3 else mm_gd (c18 ≤ 512) (mm_mp (f_L_law_1115 sc xs L M1109))
set_option maxRecDepth 20000 in
theorem w_L_law_1094 {g : mm_c} {nm : String} {sc : Option Nat} {xs : Nat → Int32} {L : Nat} (C : mm_ok g cL_law "LessonCardsLaw" (some .boolean) nm 4 11 398 600000 7302250) (S : mm_law g sc L xs) {M : mm_M} {c18 : Nat} {v1 : Option Nat} {v2 : Option Nat} {v3 : Int32} {res : (Nat × mm_M × Int32) ⊕ (Int32)} (hf : f_L_law_1094 sc xs L M c18 v1 v2 v3 = some res) (ko : (mm_o (h_L_law_18 g sc v1 v2) (fun z : Int32 => z = 1)) res) : mm_X g (63 + 41 * c18) (52194 + 7185 * c18) M 1094 [(0, mm_r sc), (1, mm_r v1), (2, mm_r v2), (3, mm_i v3)] [] := by
  unfold f_L_law_1094 at hf
  refine xr_aload_n 1095 1 C dL_law_1094 rfl rfl rfl ?_
  refine xr_aload_n 1096 0 C dL_law_1095 rfl rfl rfl ?_
  refine xr_iload_n 1097 3 C dL_law_1096 rfl rfl rfl ?_
  refine xr_iconst 1098 C (v := 1) dL_law_1097 (by decide) rfl ?_
  refine xr_iadd 1099 C dL_law_1098 rfl ?_
  obtain ⟨x1099, h1099, hf⟩ := mm_bd_e hf
  refine xr_sld 1100 C S h1099 dL_law_1099 rfl ?_
  obtain ⟨u1100, g1100, hf⟩ := mm_bd_e hf
  obtain ⟨hc18, hf⟩ := mm_gd_e hf
  obtain ⟨x1100, M1100, h1100, hf⟩ := mm_b2_e hf
  refine xr_callV 1103 C [mm_i x1099] cm_L_140 (fun l G cy => c_X9_check l G cy h1100) g1100 rfl rfl ⟨⟨Nat.le_of_ble_eq_true rfl, Nat.le_of_ble_eq_true rfl⟩, (by omega), (by omega)⟩ (Nat.le_of_ble_eq_true rfl) dL_law_1100 rfl ?_
  refine xr_aload_n 1104 2 C dL_law_1103 rfl rfl rfl ?_
  refine xr_aload_n 1105 0 C dL_law_1104 rfl rfl rfl ?_
  refine xr_iload_n 1106 3 C dL_law_1105 rfl rfl rfl ?_
  refine xr_iconst 1107 C (v := 1) dL_law_1106 (by decide) rfl ?_
  refine xr_iadd 1108 C dL_law_1107 rfl ?_
  obtain ⟨x1108, h1108, hf⟩ := mm_bd_e hf
  refine xr_sld 1109 C S h1108 dL_law_1108 rfl ?_
  obtain ⟨u1109, g1109, hf⟩ := mm_bd_e hf
  obtain ⟨x1109, M1109, h1109, hf⟩ := mm_b2_e hf
  refine xr_callV 1112 C [mm_i x1108] cm_L_143 (fun l G cy => c_X10_check l G cy h1109) g1109 rfl rfl ⟨⟨Nat.le_of_ble_eq_true rfl, Nat.le_of_ble_eq_true rfl⟩, (by omega), (by omega)⟩ (Nat.le_of_ble_eq_true rfl) dL_law_1109 rfl ?_
  refine xr_icmp_eq 1117 1115 C dL_law_1112 (by decide) rfl (fun hc => ?_) (fun hc => ?_)
  · replace hf := (if_pos hc).symm.trans hf
    refine xr_widen (k := (63 + 41 * c18 + 38)) (n := (52194 + 7185 * c18 + 6171)) (by omega) (by omega) ?_
    exact w_L_law_1117 C S hf ko
  · replace hf := (if_neg hc).symm.trans hf
    refine xr_sub [] (lv2 := []) rfl ?_
    obtain ⟨hcx, hf⟩ := mm_gd_e hf
    obtain ⟨z, hf2, rfl⟩ := mm_mp_e hf
    clear hf
    have hf := hf2
    clear hf2
    refine xr_widen (k := 21055) (n := 3730914) (by omega) (by omega) ?_
    exact w_L_law_1115 C S hf ko
noncomputable def f_L_law_26 (sc : Option Nat) (xs : Nat → Int32) (L : Nat) (M : mm_M) (c18 : Nat) (v1 : Option Nat) (v2 : Option Nat) (v3 : Int32) : Option ((Nat × mm_M × Int32) ⊕ (Int32)) :=
  (mm_sc xs L v3).bind fun x28 =>
  if (x28 &&& 31) = 0 then f_L_law_172 sc xs L M c18 v1 v2 v3 else if (x28 &&& 31) = 1 then f_L_law_195 sc xs L M c18 v1 v2 v3 else if (x28 &&& 31) = 2 then f_L_law_228 sc xs L M c18 v1 v2 v3 else if (x28 &&& 31) = 3 then f_L_law_251 sc xs L M c18 v1 v2 v3 else if (x28 &&& 31) = 4 then f_L_law_284 sc xs L M c18 v1 v2 v3 else if (x28 &&& 31) = 5 then f_L_law_317 sc xs L M c18 v1 v2 v3 else if (x28 &&& 31) = 6 then f_L_law_350 sc xs L M c18 v1 v2 v3 else if (x28 &&& 31) = 7 then f_L_law_373 sc xs L M c18 v1 v2 v3 else if (x28 &&& 31) = 8 then f_L_law_396 sc xs L M c18 v1 v2 v3 else if (x28 &&& 31) = 9 then f_L_law_429 sc xs L M c18 v1 v2 v3 else if (x28 &&& 31) = 10 then f_L_law_452 sc xs L M c18 v1 v2 v3 else if (x28 &&& 31) = 11 then f_L_law_495 sc xs L M c18 v1 v2 v3 else if (x28 &&& 31) = 12 then f_L_law_508 sc xs L M c18 v1 v2 v3 else if (x28 &&& 31) = 13 then f_L_law_561 sc xs L M c18 v1 v2 v3 else if (x28 &&& 31) = 14 then f_L_law_604 sc xs L M c18 v1 v2 v3 else if (x28 &&& 31) = 15 then f_L_law_637 sc xs L M c18 v1 v2 v3 else if (x28 &&& 31) = 16 then f_L_law_670 sc xs L M c18 v1 v2 v3 else if (x28 &&& 31) = 17 then f_L_law_703 sc xs L M c18 v1 v2 v3 else if (x28 &&& 31) = 18 then f_L_law_736 sc xs L M c18 v1 v2 v3 else if (x28 &&& 31) = 19 then f_L_law_769 sc xs L M c18 v1 v2 v3 else if (x28 &&& 31) = 20 then f_L_law_792 sc xs L M c18 v1 v2 v3 else if (x28 &&& 31) = 21 then f_L_law_825 sc xs L M c18 v1 v2 v3 else if (x28 &&& 31) = 22 then f_L_law_868 sc xs L M c18 v1 v2 v3 else if (x28 &&& 31) = 23 then f_L_law_901 sc xs L M c18 v1 v2 v3 else if (x28 &&& 31) = 24 then f_L_law_925 sc xs L M c18 v1 v2 v3 else if (x28 &&& 31) = 25 then f_L_law_938 sc xs L M c18 v1 v2 v3 else if (x28 &&& 31) = 26 then f_L_law_951 sc xs L M c18 v1 v2 v3 else if (x28 &&& 31) = 27 then f_L_law_984 sc xs L M c18 v1 v2 v3 else if (x28 &&& 31) = 28 then f_L_law_1018 sc xs L M c18 v1 v2 v3 else if (x28 &&& 31) = 29 then f_L_law_1041 sc xs L M c18 v1 v2 v3 else if (x28 &&& 31) = 30 then f_L_law_1094 sc xs L M c18 v1 v2 v3 else f_L_law_1117 sc xs L M c18 v1 v2 v3
set_option maxRecDepth 20000 in
theorem w_L_law_26 {g : mm_c} {nm : String} {sc : Option Nat} {xs : Nat → Int32} {L : Nat} (C : mm_ok g cL_law "LessonCardsLaw" (some .boolean) nm 4 11 398 600000 7302250) (S : mm_law g sc L xs) {M : mm_M} {c18 : Nat} {v1 : Option Nat} {v2 : Option Nat} {v3 : Int32} {res : (Nat × mm_M × Int32) ⊕ (Int32)} (hf : f_L_law_26 sc xs L M c18 v1 v2 v3 = some res) (ko : (mm_o (h_L_law_18 g sc v1 v2) (fun z : Int32 => z = 1)) res) : mm_X g (63 + 41 * c18) (52194 + 7185 * c18) M 26 [(0, mm_r sc), (1, mm_r v1), (2, mm_r v2), (3, mm_i v3)] [] := by
  unfold f_L_law_26 at hf
  refine xr_aload_n 27 0 C dL_law_26 rfl rfl rfl ?_
  refine xr_iload_n 28 3 C dL_law_27 rfl rfl rfl ?_
  obtain ⟨x28, h28, hf⟩ := mm_bd_e hf
  refine xr_sld 29 C S h28 dL_law_28 rfl ?_
  refine xr_bipush 31 C (v := 31) dL_law_29 (by decide) rfl ?_
  refine xr_iand 32 C dL_law_31 rfl ?_
  rcases mm_if_e hf with ⟨hc0, hf⟩ | ⟨hc0, hf⟩
  · refine xr_tin 172 C dL_law_32 (off := 140) hc0 (by decide) (by decide) (by decide) (by decide) ?_
    exact w_L_law_172 C S hf ko
  ·
    rcases mm_if_e hf with ⟨hc1, hf⟩ | ⟨hc1, hf⟩
    · refine xr_tin 195 C dL_law_32 (off := 163) hc1 (by decide) (by decide) (by decide) (by decide) ?_
      exact w_L_law_195 C S hf ko
    ·
      rcases mm_if_e hf with ⟨hc2, hf⟩ | ⟨hc2, hf⟩
      · refine xr_tin 228 C dL_law_32 (off := 196) hc2 (by decide) (by decide) (by decide) (by decide) ?_
        exact w_L_law_228 C S hf ko
      ·
        rcases mm_if_e hf with ⟨hc3, hf⟩ | ⟨hc3, hf⟩
        · refine xr_tin 251 C dL_law_32 (off := 219) hc3 (by decide) (by decide) (by decide) (by decide) ?_
          exact w_L_law_251 C S hf ko
        ·
          rcases mm_if_e hf with ⟨hc4, hf⟩ | ⟨hc4, hf⟩
          · refine xr_tin 284 C dL_law_32 (off := 252) hc4 (by decide) (by decide) (by decide) (by decide) ?_
            exact w_L_law_284 C S hf ko
          ·
            rcases mm_if_e hf with ⟨hc5, hf⟩ | ⟨hc5, hf⟩
            · refine xr_tin 317 C dL_law_32 (off := 285) hc5 (by decide) (by decide) (by decide) (by decide) ?_
              exact w_L_law_317 C S hf ko
            ·
              rcases mm_if_e hf with ⟨hc6, hf⟩ | ⟨hc6, hf⟩
              · refine xr_tin 350 C dL_law_32 (off := 318) hc6 (by decide) (by decide) (by decide) (by decide) ?_
                exact w_L_law_350 C S hf ko
              ·
                rcases mm_if_e hf with ⟨hc7, hf⟩ | ⟨hc7, hf⟩
                · refine xr_tin 373 C dL_law_32 (off := 341) hc7 (by decide) (by decide) (by decide) (by decide) ?_
                  exact w_L_law_373 C S hf ko
                ·
                  rcases mm_if_e hf with ⟨hc8, hf⟩ | ⟨hc8, hf⟩
                  · refine xr_tin 396 C dL_law_32 (off := 364) hc8 (by decide) (by decide) (by decide) (by decide) ?_
                    exact w_L_law_396 C S hf ko
                  ·
                    rcases mm_if_e hf with ⟨hc9, hf⟩ | ⟨hc9, hf⟩
                    · refine xr_tin 429 C dL_law_32 (off := 397) hc9 (by decide) (by decide) (by decide) (by decide) ?_
                      exact w_L_law_429 C S hf ko
                    ·
                      rcases mm_if_e hf with ⟨hc10, hf⟩ | ⟨hc10, hf⟩
                      · refine xr_tin 452 C dL_law_32 (off := 420) hc10 (by decide) (by decide) (by decide) (by decide) ?_
                        exact w_L_law_452 C S hf ko
                      ·
                        rcases mm_if_e hf with ⟨hc11, hf⟩ | ⟨hc11, hf⟩
                        · refine xr_tin 495 C dL_law_32 (off := 463) hc11 (by decide) (by decide) (by decide) (by decide) ?_
                          exact w_L_law_495 C S hf ko
                        ·
                          rcases mm_if_e hf with ⟨hc12, hf⟩ | ⟨hc12, hf⟩
                          · refine xr_tin 508 C dL_law_32 (off := 476) hc12 (by decide) (by decide) (by decide) (by decide) ?_
                            exact w_L_law_508 C S hf ko
                          ·
                            rcases mm_if_e hf with ⟨hc13, hf⟩ | ⟨hc13, hf⟩
                            · refine xr_tin 561 C dL_law_32 (off := 529) hc13 (by decide) (by decide) (by decide) (by decide) ?_
                              exact w_L_law_561 C S hf ko
                            ·
                              rcases mm_if_e hf with ⟨hc14, hf⟩ | ⟨hc14, hf⟩
                              · refine xr_tin 604 C dL_law_32 (off := 572) hc14 (by decide) (by decide) (by decide) (by decide) ?_
                                exact w_L_law_604 C S hf ko
                              ·
                                rcases mm_if_e hf with ⟨hc15, hf⟩ | ⟨hc15, hf⟩
                                · refine xr_tin 637 C dL_law_32 (off := 605) hc15 (by decide) (by decide) (by decide) (by decide) ?_
                                  exact w_L_law_637 C S hf ko
                                ·
                                  rcases mm_if_e hf with ⟨hc16, hf⟩ | ⟨hc16, hf⟩
                                  · refine xr_tin 670 C dL_law_32 (off := 638) hc16 (by decide) (by decide) (by decide) (by decide) ?_
                                    exact w_L_law_670 C S hf ko
                                  ·
                                    rcases mm_if_e hf with ⟨hc17, hf⟩ | ⟨hc17, hf⟩
                                    · refine xr_tin 703 C dL_law_32 (off := 671) hc17 (by decide) (by decide) (by decide) (by decide) ?_
                                      exact w_L_law_703 C S hf ko
                                    ·
                                      rcases mm_if_e hf with ⟨hc18, hf⟩ | ⟨hc18, hf⟩
                                      · refine xr_tin 736 C dL_law_32 (off := 704) hc18 (by decide) (by decide) (by decide) (by decide) ?_
                                        exact w_L_law_736 C S hf ko
                                      ·
                                        rcases mm_if_e hf with ⟨hc19, hf⟩ | ⟨hc19, hf⟩
                                        · refine xr_tin 769 C dL_law_32 (off := 737) hc19 (by decide) (by decide) (by decide) (by decide) ?_
                                          exact w_L_law_769 C S hf ko
                                        ·
                                          rcases mm_if_e hf with ⟨hc20, hf⟩ | ⟨hc20, hf⟩
                                          · refine xr_tin 792 C dL_law_32 (off := 760) hc20 (by decide) (by decide) (by decide) (by decide) ?_
                                            exact w_L_law_792 C S hf ko
                                          ·
                                            rcases mm_if_e hf with ⟨hc21, hf⟩ | ⟨hc21, hf⟩
                                            · refine xr_tin 825 C dL_law_32 (off := 793) hc21 (by decide) (by decide) (by decide) (by decide) ?_
                                              exact w_L_law_825 C S hf ko
                                            ·
                                              rcases mm_if_e hf with ⟨hc22, hf⟩ | ⟨hc22, hf⟩
                                              · refine xr_tin 868 C dL_law_32 (off := 836) hc22 (by decide) (by decide) (by decide) (by decide) ?_
                                                exact w_L_law_868 C S hf ko
                                              ·
                                                rcases mm_if_e hf with ⟨hc23, hf⟩ | ⟨hc23, hf⟩
                                                · refine xr_tin 901 C dL_law_32 (off := 869) hc23 (by decide) (by decide) (by decide) (by decide) ?_
                                                  exact w_L_law_901 C S hf ko
                                                ·
                                                  rcases mm_if_e hf with ⟨hc24, hf⟩ | ⟨hc24, hf⟩
                                                  · refine xr_tin 925 C dL_law_32 (off := 893) hc24 (by decide) (by decide) (by decide) (by decide) ?_
                                                    exact w_L_law_925 C S hf ko
                                                  ·
                                                    rcases mm_if_e hf with ⟨hc25, hf⟩ | ⟨hc25, hf⟩
                                                    · refine xr_tin 938 C dL_law_32 (off := 906) hc25 (by decide) (by decide) (by decide) (by decide) ?_
                                                      exact w_L_law_938 C S hf ko
                                                    ·
                                                      rcases mm_if_e hf with ⟨hc26, hf⟩ | ⟨hc26, hf⟩
                                                      · refine xr_tin 951 C dL_law_32 (off := 919) hc26 (by decide) (by decide) (by decide) (by decide) ?_
                                                        exact w_L_law_951 C S hf ko
                                                      ·
                                                        rcases mm_if_e hf with ⟨hc27, hf⟩ | ⟨hc27, hf⟩
                                                        · refine xr_tin 984 C dL_law_32 (off := 952) hc27 (by decide) (by decide) (by decide) (by decide) ?_
                                                          exact w_L_law_984 C S hf ko
                                                        ·
                                                          rcases mm_if_e hf with ⟨hc28, hf⟩ | ⟨hc28, hf⟩
                                                          · refine xr_tin 1018 C dL_law_32 (off := 986) hc28 (by decide) (by decide) (by decide) (by decide) ?_
                                                            exact w_L_law_1018 C S hf ko
                                                          ·
                                                            rcases mm_if_e hf with ⟨hc29, hf⟩ | ⟨hc29, hf⟩
                                                            · refine xr_tin 1041 C dL_law_32 (off := 1009) hc29 (by decide) (by decide) (by decide) (by decide) ?_
                                                              exact w_L_law_1041 C S hf ko
                                                            ·
                                                              rcases mm_if_e hf with ⟨hc30, hf⟩ | ⟨hc30, hf⟩
                                                              · refine xr_tin 1094 C dL_law_32 (off := 1062) hc30 (by decide) (by decide) (by decide) (by decide) ?_
                                                                exact w_L_law_1094 C S hf ko
                                                              ·
                                                                refine xr_tout 1117 C dL_law_32 (mm_swd _ 30 (by decide) (fun k hk => by rcases (show k = 0 ∨ k = 1 ∨ k = 2 ∨ k = 3 ∨ k = 4 ∨ k = 5 ∨ k = 6 ∨ k = 7 ∨ k = 8 ∨ k = 9 ∨ k = 10 ∨ k = 11 ∨ k = 12 ∨ k = 13 ∨ k = 14 ∨ k = 15 ∨ k = 16 ∨ k = 17 ∨ k = 18 ∨ k = 19 ∨ k = 20 ∨ k = 21 ∨ k = 22 ∨ k = 23 ∨ k = 24 ∨ k = 25 ∨ k = 26 ∨ k = 27 ∨ k = 28 ∨ k = 29 ∨ k = 30 by omega) with rfl | rfl | rfl | rfl | rfl | rfl | rfl | rfl | rfl | rfl | rfl | rfl | rfl | rfl | rfl | rfl | rfl | rfl | rfl | rfl | rfl | rfl | rfl | rfl | rfl | rfl | rfl | rfl | rfl | rfl | rfl <;> assumption)) (by decide) ?_
                                                                refine xr_widen (k := (63 + 41 * c18 + 38)) (n := (52194 + 7185 * c18 + 6171)) (by omega) (by omega) ?_
                                                                exact w_L_law_1117 C S hf ko
noncomputable def f_L_law_1123 (sc : Option Nat) (xs : Nat → Int32) (L : Nat) (M : mm_M) : Option (Int32) :=
  some 1
set_option maxRecDepth 20000 in
theorem w_L_law_1123 {g : mm_c} {nm : String} {sc : Option Nat} {xs : Nat → Int32} {L : Nat} (C : mm_ok g cL_law "LessonCardsLaw" (some .boolean) nm 4 11 398 600000 7302250) (S : mm_law g sc L xs) {M : mm_M} {res : Int32} (hf : f_L_law_1123 sc xs L M = some res) (ko : (fun z : Int32 => z = 1) res) : mm_X g 21055 3730914 M 1123 [] [] := by
  unfold f_L_law_1123 at hf
  refine xr_iconst 1124 C (v := 1) dL_law_1123 (by decide) rfl ?_
  obtain rfl := Option.some.inj hf
  exact xr_lret1 C S ⟨(Nat.le_of_ble_eq_true rfl), (Nat.le_of_ble_eq_true rfl)⟩ dL_law_1124
noncomputable def f_L_law_18 (sc : Option Nat) (xs : Nat → Int32) (L : Nat) (M : mm_M) (c18 : Nat) (v1 : Option Nat) (v2 : Option Nat) (v3 : Int32) : Option ((Nat × mm_M × Int32) ⊕ (Int32)) :=
  if ((nI L) - 5) < v3 then mm_gd (c18 ≤ 512) (mm_mp (f_L_law_1123 sc xs L M)) else f_L_law_26 sc xs L M c18 v1 v2 v3
set_option maxRecDepth 20000 in
theorem w_L_law_18 {g : mm_c} {nm : String} {sc : Option Nat} {xs : Nat → Int32} {L : Nat} (C : mm_ok g cL_law "LessonCardsLaw" (some .boolean) nm 4 11 398 600000 7302250) (S : mm_law g sc L xs) {M : mm_M} {c18 : Nat} {v1 : Option Nat} {v2 : Option Nat} {v3 : Int32} {res : (Nat × mm_M × Int32) ⊕ (Int32)} (hf : f_L_law_18 sc xs L M c18 v1 v2 v3 = some res) (ko : (mm_o (h_L_law_18 g sc v1 v2) (fun z : Int32 => z = 1)) res) : mm_X g (63 + 41 * c18) (52194 + 7185 * c18) M 18 [(0, mm_r sc), (1, mm_r v1), (2, mm_r v2), (3, mm_i v3)] [] := by
  unfold f_L_law_18 at hf
  refine xr_iload_n 19 3 C dL_law_18 rfl rfl rfl ?_
  refine xr_aload_n 20 0 C dL_law_19 rfl rfl rfl ?_
  refine xr_slen 21 C S dL_law_20 rfl ?_
  refine xr_iconst 22 C (v := 5) dL_law_21 (by decide) rfl ?_
  refine xr_isub 23 C dL_law_22 rfl ?_
  refine xr_icmp_gt 1123 26 C dL_law_23 (by decide) rfl (fun hc => ?_) (fun hc => ?_)
  · replace hf := (if_pos hc).symm.trans hf
    refine xr_sub [] (lv2 := []) rfl ?_
    obtain ⟨hcx, hf⟩ := mm_gd_e hf
    obtain ⟨z, hf2, rfl⟩ := mm_mp_e hf
    clear hf
    have hf := hf2
    clear hf2
    refine xr_widen (k := 21055) (n := 3730914) (by omega) (by omega) ?_
    exact w_L_law_1123 C S hf ko
  · replace hf := (if_neg hc).symm.trans hf
    exact w_L_law_26 C S hf ko
noncomputable def f_L_law_18w (sc : Option Nat) (xs : Nat → Int32) (L : Nat) (M : mm_M) (v1 : Option Nat) (v2 : Option Nat) (v3 : Int32) : Option (Int32) := mm_w (fun x => f_L_law_18 sc xs L x.2.1 x.1 v1 v2 x.2.2) (0, M, v3)
theorem l_L_law_18 {g : mm_c} {nm : String} {sc : Option Nat} {xs : Nat → Int32} {L : Nat} (C : mm_ok g cL_law "LessonCardsLaw" (some .boolean) nm 4 11 398 600000 7302250) (S : mm_law g sc L xs) {M : mm_M} {v1 : Option Nat} {v2 : Option Nat} {v3 : Int32} {res : Int32} (hf : f_L_law_18w sc xs L M v1 v2 v3 = some res) (ko : (fun z : Int32 => z = 1) res) : mm_X g 63 52194 M 18 [(0, mm_r sc), (1, mm_r v1), (2, mm_r v2), (3, mm_i v3)] [] :=
  xr_widen (k := 63 + 41 * 0) (n := 52194 + 7185 * 0) (by omega) (by omega) <| mm_w_W (body := fun x => f_L_law_18 sc xs L x.2.1 x.1 v1 v2 x.2.2) (Wh := h_L_law_18 g sc v1 v2) (ok := (fun z : Int32 => z = 1)) (x := (0, M, v3)) (fun x r hb ho => w_L_law_18 C S hb ho) hf ko
noncomputable def f_L_law_0 (sc : Option Nat) (xs : Nat → Int32) (L : Nat) (M : mm_M) : Option (Int32) :=
  mm_le (mm_nw M (10, 0)) fun M0 =>
  (f_X9_init M0 (mm_n M)).bind fun M4 =>
  mm_le (mm_nw M4 (11, 0)) fun M8 =>
  (f_X10_init M8 (mm_n M4)).bind fun M12 =>
  f_L_law_18w sc xs L M12 (some (mm_n M)) (some (mm_n M4)) 0
set_option maxRecDepth 20000 in
theorem w_L_law_0 {g : mm_c} {nm : String} {sc : Option Nat} {xs : Nat → Int32} {L : Nat} (C : mm_ok g cL_law "LessonCardsLaw" (some .boolean) nm 4 11 398 600000 7302250) (S : mm_law g sc L xs) {M : mm_M} {res : Int32} (hf : f_L_law_0 sc xs L M = some res) (ko : (fun z : Int32 => z = 1) res) : mm_X g 0 0 M 0 [(0, mm_r sc)] [] := by
  unfold f_L_law_0 at hf
  obtain ⟨M0, h0, hf⟩ := mm_le_e hf
  refine xr_new 3 C (ci := 10) (Cn := RX9) (T := TX9) (N := 11) (ty := tyX9) rfl (by decide) in_X9 tyX9_ok nf_X9 wd_66 wd_67 wd_46 dL_law_0 ⟨(Nat.le_of_ble_eq_true rfl), (Nat.le_of_ble_eq_true rfl)⟩ rfl h0 ?_
  refine xr_dup 4 C dL_law_3 rfl rfl ?_
  obtain ⟨M4, h4, hf⟩ := mm_bd_e hf
  refine xr_callI 7 C [] cm_L_9 (fun l G cy => c_X9_init l G cy h4) rfl rfl ⟨⟨Nat.le_of_ble_eq_true rfl, Nat.le_of_ble_eq_true rfl⟩, (Nat.le_of_ble_eq_true rfl), (Nat.le_of_ble_eq_true rfl)⟩ (Nat.le_of_ble_eq_true rfl) dL_law_4 rfl ?_
  refine xr_astore_n 8 C dL_law_7 rfl (by decide) rfl [(1, mm_r (some (mm_n M))), (0, mm_r sc)] rfl ?_
  obtain ⟨M8, h8, hf⟩ := mm_le_e hf
  refine xr_new 11 C (ci := 11) (Cn := RX10) (T := TX10) (N := 48) (ty := tyX10) rfl (by decide) in_X10 tyX10_ok nf_X10 wd_929 wd_930 wd_55 dL_law_8 ⟨(Nat.le_of_ble_eq_true rfl), (Nat.le_of_ble_eq_true rfl)⟩ rfl h8 ?_
  refine xr_dup 12 C dL_law_11 rfl rfl ?_
  obtain ⟨M12, h12, hf⟩ := mm_bd_e hf
  refine xr_callI 15 C [] cm_L_12 (fun l G cy => c_X10_init l G cy h12) rfl rfl ⟨⟨Nat.le_of_ble_eq_true rfl, Nat.le_of_ble_eq_true rfl⟩, (Nat.le_of_ble_eq_true rfl), (Nat.le_of_ble_eq_true rfl)⟩ (Nat.le_of_ble_eq_true rfl) dL_law_12 rfl ?_
  refine xr_astore_n 16 C dL_law_15 rfl (by decide) rfl [(2, mm_r (some (mm_n M4))), (1, mm_r (some (mm_n M))), (0, mm_r sc)] rfl ?_
  refine xr_iconst 17 C (v := 0) dL_law_16 (by decide) rfl ?_
  refine xr_istore_n 18 C dL_law_17 rfl (by decide) rfl [(3, mm_i 0), (2, mm_r (some (mm_n M4))), (1, mm_r (some (mm_n M))), (0, mm_r sc)] rfl ?_
  refine xr_sub [3, 2, 1, 0] (lv2 := [(0, mm_r sc), (1, mm_r (some (mm_n M))), (2, mm_r (some (mm_n M4))), (3, mm_i 0)]) rfl ?_
  exact l_L_law_18 C S hf ko
