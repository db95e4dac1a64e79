theorem dX8_stepStatement_174 : decode cX8_stepStatement 174 = .ok (.goto 232, 3) := by decide +kernel
theorem dX8_stepStatement_177 : decode cX8_stepStatement 177 = .ok (.aload_n 0, 1) := by decide +kernel
theorem dX8_stepStatement_178 : decode cX8_stepStatement 178 = .ok (.bipush 125, 2) := by decide +kernel
theorem dX8_stepStatement_180 : decode cX8_stepStatement 180 = .ok (.invokevirtual 224, 3) := by decide +kernel
theorem dX8_stepStatement_183 : decode cX8_stepStatement 183 = .ok (.aload_n 0, 1) := by decide +kernel
theorem dX8_stepStatement_184 : decode cX8_stepStatement 184 = .ok (.aload_n 0, 1) := by decide +kernel
theorem dX8_stepStatement_185 : decode cX8_stepStatement 185 = .ok (.getfield 55, 3) := by decide +kernel
theorem dX8_stepStatement_188 : decode cX8_stepStatement 188 = .ok (.iload_n 1, 1) := by decide +kernel
theorem dX8_stepStatement_189 : decode cX8_stepStatement 189 = .ok (.iaload, 1) := by decide +kernel
theorem dX8_stepStatement_190 : decode cX8_stepStatement 190 = .ok (.invokevirtual 227, 3) := by decide +kernel
theorem dX8_stepStatement_193 : decode cX8_stepStatement 193 = .ok (.aload_n 0, 1) := by decide +kernel
theorem dX8_stepStatement_194 : decode cX8_stepStatement 194 = .ok (.iload_n 1, 1) := by decide +kernel
theorem dX8_stepStatement_195 : decode cX8_stepStatement 195 = .ok (.aload_n 0, 1) := by decide +kernel
theorem dX8_stepStatement_196 : decode cX8_stepStatement 196 = .ok (.bipush 7, 2) := by decide +kernel
theorem dX8_stepStatement_198 : decode cX8_stepStatement 198 = .ok (.aload_n 0, 1) := by decide +kernel
theorem dX8_stepStatement_199 : decode cX8_stepStatement 199 = .ok (.getfield 43, 3) := by decide +kernel
theorem dX8_stepStatement_202 : decode cX8_stepStatement 202 = .ok (.iload_n 1, 1) := by decide +kernel
theorem dX8_stepStatement_203 : decode cX8_stepStatement 203 = .ok (.iaload, 1) := by decide +kernel
theorem dX8_stepStatement_204 : decode cX8_stepStatement 204 = .ok (.aload_n 0, 1) := by decide +kernel
theorem dX8_stepStatement_205 : decode cX8_stepStatement 205 = .ok (.getfield 49, 3) := by decide +kernel
theorem dX8_stepStatement_208 : decode cX8_stepStatement 208 = .ok (.iload_n 1, 1) := by decide +kernel
theorem dX8_stepStatement_209 : decode cX8_stepStatement 209 = .ok (.iaload, 1) := by decide +kernel
theorem dX8_stepStatement_210 : decode cX8_stepStatement 210 = .ok (.aload_n 0, 1) := by decide +kernel
theorem dX8_stepStatement_211 : decode cX8_stepStatement 211 = .ok (.getfield 162, 3) := by decide +kernel
theorem dX8_stepStatement_214 : decode cX8_stepStatement 214 = .ok (.iload_n 2, 1) := by decide +kernel
theorem dX8_stepStatement_215 : decode cX8_stepStatement 215 = .ok (.invokevirtual 205, 3) := by decide +kernel
theorem dX8_stepStatement_218 : decode cX8_stepStatement 218 = .ok (.invokevirtual 215, 3) := by decide +kernel
theorem dX8_stepStatement_221 : decode cX8_stepStatement 221 = .ok (.goto 185, 3) := by decide +kernel
theorem dX8_stepStatement_224 : decode cX8_stepStatement 224 = .ok (.aload_n 0, 1) := by decide +kernel
theorem dX8_stepStatement_225 : decode cX8_stepStatement 225 = .ok (.getfield 43, 3) := by decide +kernel
theorem dX8_stepStatement_228 : decode cX8_stepStatement 228 = .ok (.iload_n 1, 1) := by decide +kernel
theorem dX8_stepStatement_229 : decode cX8_stepStatement 229 = .ok (.aload_n 0, 1) := by decide +kernel
theorem dX8_stepStatement_230 : decode cX8_stepStatement 230 = .ok (.getfield 162, 3) := by decide +kernel
theorem dX8_stepStatement_233 : decode cX8_stepStatement 233 = .ok (.iastore, 1) := by decide +kernel
theorem dX8_stepStatement_234 : decode cX8_stepStatement 234 = .ok (.aload_n 0, 1) := by decide +kernel
theorem dX8_stepStatement_235 : decode cX8_stepStatement 235 = .ok (.bipush 123, 2) := by decide +kernel
theorem dX8_stepStatement_237 : decode cX8_stepStatement 237 = .ok (.invokevirtual 218, 3) := by decide +kernel
theorem dX8_stepStatement_240 : decode cX8_stepStatement 240 = .ok (.aload_n 0, 1) := by decide +kernel
theorem dX8_stepStatement_241 : decode cX8_stepStatement 241 = .ok (.getfield 52, 3) := by decide +kernel
theorem dX8_stepStatement_244 : decode cX8_stepStatement 244 = .ok (.iload_n 1, 1) := by decide +kernel
theorem dX8_stepStatement_245 : decode cX8_stepStatement 245 = .ok (.aload_n 0, 1) := by decide +kernel
theorem dX8_stepStatement_246 : decode cX8_stepStatement 246 = .ok (.bipush 9, 2) := by decide +kernel
theorem dX8_stepStatement_248 : decode cX8_stepStatement 248 = .ok (.iconst 0, 1) := by decide +kernel
theorem dX8_stepStatement_249 : decode cX8_stepStatement 249 = .ok (.iconst (-1), 1) := by decide +kernel
theorem dX8_stepStatement_250 : decode cX8_stepStatement 250 = .ok (.invokevirtual 178, 3) := by decide +kernel
theorem dX8_stepStatement_253 : decode cX8_stepStatement 253 = .ok (.iastore, 1) := by decide +kernel
theorem dX8_stepStatement_254 : decode cX8_stepStatement 254 = .ok (.aload_n 0, 1) := by decide +kernel
theorem dX8_stepStatement_255 : decode cX8_stepStatement 255 = .ok (.bipush 11, 2) := by decide +kernel
theorem dX8_stepStatement_257 : decode cX8_stepStatement 257 = .ok (.iconst 0, 1) := by decide +kernel
theorem dX8_stepStatement_258 : decode cX8_stepStatement 258 = .ok (.iconst (-1), 1) := by decide +kernel
theorem dX8_stepStatement_259 : decode cX8_stepStatement 259 = .ok (.invokevirtual 178, 3) := by decide +kernel
theorem dX8_stepStatement_262 : decode cX8_stepStatement 262 = .ok (.pop, 1) := by decide +kernel
theorem dX8_stepStatement_263 : decode cX8_stepStatement 263 = .ok (.aload_n 0, 1) := by decide +kernel
theorem dX8_stepStatement_264 : decode cX8_stepStatement 264 = .ok (.getfield 40, 3) := by decide +kernel
theorem dX8_stepStatement_267 : decode cX8_stepStatement 267 = .ok (.iload_n 1, 1) := by decide +kernel
theorem dX8_stepStatement_268 : decode cX8_stepStatement 268 = .ok (.bipush 6, 2) := by decide +kernel
theorem dX8_stepStatement_270 : decode cX8_stepStatement 270 = .ok (.iastore, 1) := by decide +kernel
theorem dX8_stepStatement_271 : decode cX8_stepStatement 271 = .ok (.aload_n 0, 1) := by decide +kernel
theorem dX8_stepStatement_272 : decode cX8_stepStatement 272 = .ok (.iconst 0, 1) := by decide +kernel
theorem dX8_stepStatement_273 : decode cX8_stepStatement 273 = .ok (.invokevirtual 171, 3) := by decide +kernel
theorem dX8_stepStatement_276 : decode cX8_stepStatement 276 = .ok (.goto 130, 3) := by decide +kernel
theorem dX8_stepStatement_279 : decode cX8_stepStatement 279 = .ok (.aload_n 0, 1) := by decide +kernel
theorem dX8_stepStatement_280 : decode cX8_stepStatement 280 = .ok (.bipush 125, 2) := by decide +kernel
theorem dX8_stepStatement_282 : decode cX8_stepStatement 282 = .ok (.invokevirtual 224, 3) := by decide +kernel
theorem dX8_stepStatement_285 : decode cX8_stepStatement 285 = .ok (.aload_n 0, 1) := by decide +kernel
theorem dX8_stepStatement_286 : decode cX8_stepStatement 286 = .ok (.bipush 10, 2) := by decide +kernel
theorem dX8_stepStatement_288 : decode cX8_stepStatement 288 = .ok (.aload_n 0, 1) := by decide +kernel
theorem dX8_stepStatement_289 : decode cX8_stepStatement 289 = .ok (.getfield 55, 3) := by decide +kernel
theorem dX8_stepStatement_292 : decode cX8_stepStatement 292 = .ok (.iload_n 1, 1) := by decide +kernel
theorem dX8_stepStatement_293 : decode cX8_stepStatement 293 = .ok (.iaload, 1) := by decide +kernel
theorem dX8_stepStatement_294 : decode cX8_stepStatement 294 = .ok (.iconst (-1), 1) := by decide +kernel
theorem dX8_stepStatement_295 : decode cX8_stepStatement 295 = .ok (.invokevirtual 178, 3) := by decide +kernel
theorem dX8_stepStatement_298 : decode cX8_stepStatement 298 = .ok (.pop, 1) := by decide +kernel
theorem dX8_stepStatement_299 : decode cX8_stepStatement 299 = .ok (.aload_n 0, 1) := by decide +kernel
theorem dX8_stepStatement_300 : decode cX8_stepStatement 300 = .ok (.aload_n 0, 1) := by decide +kernel
theorem dX8_stepStatement_301 : decode cX8_stepStatement 301 = .ok (.getfield 52, 3) := by decide +kernel
theorem dX8_stepStatement_304 : decode cX8_stepStatement 304 = .ok (.iload_n 1, 1) := by decide +kernel
theorem dX8_stepStatement_305 : decode cX8_stepStatement 305 = .ok (.iaload, 1) := by decide +kernel
theorem dX8_stepStatement_306 : decode cX8_stepStatement 306 = .ok (.invokevirtual 227, 3) := by decide +kernel
theorem dX8_stepStatement_309 : decode cX8_stepStatement 309 = .ok (.aload_n 0, 1) := by decide +kernel
theorem dX8_stepStatement_310 : decode cX8_stepStatement 310 = .ok (.iload_n 1, 1) := by decide +kernel
theorem dX8_stepStatement_311 : decode cX8_stepStatement 311 = .ok (.aload_n 0, 1) := by decide +kernel
theorem dX8_stepStatement_312 : decode cX8_stepStatement 312 = .ok (.bipush 8, 2) := by decide +kernel
theorem dX8_stepStatement_314 : decode cX8_stepStatement 314 = .ok (.aload_n 0, 1) := by decide +kernel
theorem dX8_stepStatement_315 : decode cX8_stepStatement 315 = .ok (.getfield 43, 3) := by decide +kernel
theorem dX8_stepStatement_318 : decode cX8_stepStatement 318 = .ok (.iload_n 1, 1) := by decide +kernel
theorem dX8_stepStatement_319 : decode cX8_stepStatement 319 = .ok (.iaload, 1) := by decide +kernel
theorem dX8_stepStatement_320 : decode cX8_stepStatement 320 = .ok (.aload_n 0, 1) := by decide +kernel
theorem dX8_stepStatement_321 : decode cX8_stepStatement 321 = .ok (.getfield 162, 3) := by decide +kernel
theorem dX8_stepStatement_324 : decode cX8_stepStatement 324 = .ok (.iconst 0, 1) := by decide +kernel
theorem dX8_stepStatement_325 : decode cX8_stepStatement 325 = .ok (.iload_n 2, 1) := by decide +kernel
theorem dX8_stepStatement_326 : decode cX8_stepStatement 326 = .ok (.invokevirtual 205, 3) := by decide +kernel
theorem dX8_stepStatement_329 : decode cX8_stepStatement 329 = .ok (.invokevirtual 215, 3) := by decide +kernel
theorem dX8_stepStatement_332 : decode cX8_stepStatement 332 = .ok (.goto 74, 3) := by decide +kernel
theorem dX8_stepStatement_335 : decode cX8_stepStatement 335 = .ok (.aload_n 0, 1) := by decide +kernel
theorem dX8_stepStatement_336 : decode cX8_stepStatement 336 = .ok (.bipush 59, 2) := by decide +kernel
theorem dX8_stepStatement_338 : decode cX8_stepStatement 338 = .ok (.invokevirtual 143, 3) := by decide +kernel
theorem dX8_stepStatement_341 : decode cX8_stepStatement 341 = .ok (.pop, 1) := by decide +kernel
theorem dX8_stepStatement_342 : decode cX8_stepStatement 342 = .ok (.aload_n 0, 1) := by decide +kernel
theorem dX8_stepStatement_343 : decode cX8_stepStatement 343 = .ok (.bipush 12, 2) := by decide +kernel
theorem dX8_stepStatement_345 : decode cX8_stepStatement 345 = .ok (.iconst 0, 1) := by decide +kernel
theorem dX8_stepStatement_346 : decode cX8_stepStatement 346 = .ok (.iconst (-1), 1) := by decide +kernel
theorem dX8_stepStatement_347 : decode cX8_stepStatement 347 = .ok (.invokevirtual 178, 3) := by decide +kernel
theorem dX8_stepStatement_350 : decode cX8_stepStatement 350 = .ok (.pop, 1) := by decide +kernel
theorem dX8_stepStatement_351 : decode cX8_stepStatement 351 = .ok (.aload_n 0, 1) := by decide +kernel
theorem dX8_stepStatement_352 : decode cX8_stepStatement 352 = .ok (.iload_n 1, 1) := by decide +kernel
theorem dX8_stepStatement_353 : decode cX8_stepStatement 353 = .ok (.aload_n 0, 1) := by decide +kernel
theorem dX8_stepStatement_354 : decode cX8_stepStatement 354 = .ok (.bipush 9, 2) := by decide +kernel
theorem dX8_stepStatement_356 : decode cX8_stepStatement 356 = .ok (.aload_n 0, 1) := by decide +kernel
theorem dX8_stepStatement_357 : decode cX8_stepStatement 357 = .ok (.getfield 162, 3) := by decide +kernel
theorem dX8_stepStatement_360 : decode cX8_stepStatement 360 = .ok (.iconst (-1), 1) := by decide +kernel
theorem dX8_stepStatement_361 : decode cX8_stepStatement 361 = .ok (.iconst (-1), 1) := by decide +kernel
theorem dX8_stepStatement_362 : decode cX8_stepStatement 362 = .ok (.iload_n 2, 1) := by decide +kernel
theorem dX8_stepStatement_363 : decode cX8_stepStatement 363 = .ok (.invokevirtual 205, 3) := by decide +kernel
theorem dX8_stepStatement_366 : decode cX8_stepStatement 366 = .ok (.invokevirtual 215, 3) := by decide +kernel
theorem dX8_stepStatement_369 : decode cX8_stepStatement 369 = .ok (.goto 37, 3) := by decide +kernel
theorem dX8_stepStatement_372 : decode cX8_stepStatement 372 = .ok (.aload_n 0, 1) := by decide +kernel
theorem dX8_stepStatement_373 : decode cX8_stepStatement 373 = .ok (.bipush 59, 2) := by decide +kernel
theorem dX8_stepStatement_375 : decode cX8_stepStatement 375 = .ok (.invokevirtual 143, 3) := by decide +kernel
theorem dX8_stepStatement_378 : decode cX8_stepStatement 378 = .ok (.pop, 1) := by decide +kernel
theorem dX8_stepStatement_379 : decode cX8_stepStatement 379 = .ok (.aload_n 0, 1) := by decide +kernel
theorem dX8_stepStatement_380 : decode cX8_stepStatement 380 = .ok (.bipush 13, 2) := by decide +kernel
theorem dX8_stepStatement_382 : decode cX8_stepStatement 382 = .ok (.iconst 0, 1) := by decide +kernel
theorem dX8_stepStatement_383 : decode cX8_stepStatement 383 = .ok (.iconst (-1), 1) := by decide +kernel
theorem dX8_stepStatement_384 : decode cX8_stepStatement 384 = .ok (.invokevirtual 178, 3) := by decide +kernel
theorem dX8_stepStatement_387 : decode cX8_stepStatement 387 = .ok (.pop, 1) := by decide +kernel
theorem dX8_stepStatement_388 : decode cX8_stepStatement 388 = .ok (.aload_n 0, 1) := by decide +kernel
theorem dX8_stepStatement_389 : decode cX8_stepStatement 389 = .ok (.iload_n 1, 1) := by decide +kernel
theorem dX8_stepStatement_390 : decode cX8_stepStatement 390 = .ok (.aload_n 0, 1) := by decide +kernel
theorem dX8_stepStatement_391 : decode cX8_stepStatement 391 = .ok (.bipush 10, 2) := by decide +kernel
theorem dX8_stepStatement_393 : decode cX8_stepStatement 393 = .ok (.aload_n 0, 1) := by decide +kernel
theorem dX8_stepStatement_394 : decode cX8_stepStatement 394 = .ok (.getfield 162, 3) := by decide +kernel
theorem dX8_stepStatement_397 : decode cX8_stepStatement 397 = .ok (.iconst (-1), 1) := by decide +kernel
theorem dX8_stepStatement_398 : decode cX8_stepStatement 398 = .ok (.iconst (-1), 1) := by decide +kernel
theorem dX8_stepStatement_399 : decode cX8_stepStatement 399 = .ok (.iload_n 2, 1) := by decide +kernel
theorem dX8_stepStatement_400 : decode cX8_stepStatement 400 = .ok (.invokevirtual 205, 3) := by decide +kernel
theorem dX8_stepStatement_403 : decode cX8_stepStatement 403 = .ok (.invokevirtual 215, 3) := by decide +kernel
theorem dX8_stepStatement_406 : decode cX8_stepStatement 406 = .ok (.return_, 1) := by decide +kernel
theorem dX8_beginStatement_0 : decode cX8_beginStatement 0 = .ok (.aload_n 0, 1) := by decide +kernel
theorem dX8_beginStatement_1 : decode cX8_beginStatement 1 = .ok (.invokevirtual 139, 3) := by decide +kernel
theorem dX8_beginStatement_4 : decode cX8_beginStatement 4 = .ok (.istore_n 2, 1) := by decide +kernel
theorem dX8_beginStatement_5 : decode cX8_beginStatement 5 = .ok (.aload_n 0, 1) := by decide +kernel
theorem dX8_beginStatement_6 : decode cX8_beginStatement 6 = .ok (.getfield 46, 3) := by decide +kernel
theorem dX8_beginStatement_9 : decode cX8_beginStatement 9 = .ok (.iload_n 1, 1) := by decide +kernel
theorem dX8_beginStatement_10 : decode cX8_beginStatement 10 = .ok (.aload_n 0, 1) := by decide +kernel
theorem dX8_beginStatement_11 : decode cX8_beginStatement 11 = .ok (.iconst 1, 1) := by decide +kernel
theorem dX8_beginStatement_12 : decode cX8_beginStatement 12 = .ok (.iconst 0, 1) := by decide +kernel
theorem dX8_beginStatement_13 : decode cX8_beginStatement 13 = .ok (.aload_n 0, 1) := by decide +kernel
theorem dX8_beginStatement_14 : decode cX8_beginStatement 14 = .ok (.getfield 132, 3) := by decide +kernel
theorem dX8_beginStatement_17 : decode cX8_beginStatement 17 = .ok (.invokevirtual 178, 3) := by decide +kernel
theorem dX8_beginStatement_20 : decode cX8_beginStatement 20 = .ok (.iastore, 1) := by decide +kernel
theorem dX8_beginStatement_21 : decode cX8_beginStatement 21 = .ok (.aload_n 0, 1) := by decide +kernel
theorem dX8_beginStatement_22 : decode cX8_beginStatement 22 = .ok (.dup, 1) := by decide +kernel
theorem dX8_beginStatement_23 : decode cX8_beginStatement 23 = .ok (.getfield 132, 3) := by decide +kernel
theorem dX8_beginStatement_26 : decode cX8_beginStatement 26 = .ok (.iconst 1, 1) := by decide +kernel
theorem dX8_beginStatement_27 : decode cX8_beginStatement 27 = .ok (.iadd, 1) := by decide +kernel
theorem dX8_beginStatement_28 : decode cX8_beginStatement 28 = .ok (.putfield 132, 3) := by decide +kernel
theorem dX8_beginStatement_31 : decode cX8_beginStatement 31 = .ok (.iload_n 2, 1) := by decide +kernel
theorem dX8_beginStatement_32 : decode cX8_beginStatement 32 = .ok (.bipush 97, 2) := by decide +kernel
theorem dX8_beginStatement_34 : decode cX8_beginStatement 34 = .ok (.if_icmp .lt 39, 3) := by decide +kernel
theorem dX8_beginStatement_37 : decode cX8_beginStatement 37 = .ok (.iload_n 2, 1) := by decide +kernel
theorem dX8_beginStatement_38 : decode cX8_beginStatement 38 = .ok (.bipush 102, 2) := by decide +kernel
theorem dX8_beginStatement_40 : decode cX8_beginStatement 40 = .ok (.if_icmp .gt 33, 3) := by decide +kernel
theorem dX8_beginStatement_43 : decode cX8_beginStatement 43 = .ok (.aload_n 0, 1) := by decide +kernel
theorem dX8_beginStatement_44 : decode cX8_beginStatement 44 = .ok (.getfield 49, 3) := by decide +kernel
theorem dX8_beginStatement_47 : decode cX8_beginStatement 47 = .ok (.iload_n 1, 1) := by decide +kernel
theorem dX8_beginStatement_48 : decode cX8_beginStatement 48 = .ok (.iload_n 2, 1) := by decide +kernel
theorem dX8_beginStatement_49 : decode cX8_beginStatement 49 = .ok (.bipush 97, 2) := by decide +kernel
theorem dX8_beginStatement_51 : decode cX8_beginStatement 51 = .ok (.isub, 1) := by decide +kernel
theorem dX8_beginStatement_52 : decode cX8_beginStatement 52 = .ok (.iastore, 1) := by decide +kernel
theorem dX8_beginStatement_53 : decode cX8_beginStatement 53 = .ok (.aload_n 0, 1) := by decide +kernel
theorem dX8_beginStatement_54 : decode cX8_beginStatement 54 = .ok (.bipush 61, 2) := by decide +kernel
theorem dX8_beginStatement_56 : decode cX8_beginStatement 56 = .ok (.invokevirtual 143, 3) := by decide +kernel
theorem dX8_beginStatement_59 : decode cX8_beginStatement 59 = .ok (.pop, 1) := by decide +kernel
theorem dX8_beginStatement_60 : decode cX8_beginStatement 60 = .ok (.aload_n 0, 1) := by decide +kernel
theorem dX8_beginStatement_61 : decode cX8_beginStatement 61 = .ok (.getfield 40, 3) := by decide +kernel
theorem dX8_beginStatement_64 : decode cX8_beginStatement 64 = .ok (.iload_n 1, 1) := by decide +kernel
theorem dX8_beginStatement_65 : decode cX8_beginStatement 65 = .ok (.iconst 1, 1) := by decide +kernel
theorem dX8_beginStatement_66 : decode cX8_beginStatement 66 = .ok (.iastore, 1) := by decide +kernel
theorem dX8_beginStatement_67 : decode cX8_beginStatement 67 = .ok (.aload_n 0, 1) := by decide +kernel
theorem dX8_beginStatement_68 : decode cX8_beginStatement 68 = .ok (.iconst 5, 1) := by decide +kernel
theorem dX8_beginStatement_69 : decode cX8_beginStatement 69 = .ok (.invokevirtual 171, 3) := by decide +kernel
theorem dX8_beginStatement_72 : decode cX8_beginStatement 72 = .ok (.return_, 1) := by decide +kernel
theorem dX8_beginStatement_73 : decode cX8_beginStatement 73 = .ok (.aload_n 0, 1) := by decide +kernel
theorem dX8_beginStatement_74 : decode cX8_beginStatement 74 = .ok (.getfield 40, 3) := by decide +kernel
theorem dX8_beginStatement_77 : decode cX8_beginStatement 77 = .ok (.iload_n 1, 1) := by decide +kernel
theorem dX8_beginStatement_78 : decode cX8_beginStatement 78 = .ok (.iload_n 2, 1) := by decide +kernel
theorem dX8_beginStatement_79 : decode cX8_beginStatement 79 = .ok (.bipush 63, 2) := by decide +kernel
theorem dX8_beginStatement_81 : decode cX8_beginStatement 81 = .ok (.if_icmp .ne 7, 3) := by decide +kernel
theorem dX8_beginStatement_84 : decode cX8_beginStatement 84 = .ok (.iconst 2, 1) := by decide +kernel
theorem dX8_beginStatement_85 : decode cX8_beginStatement 85 = .ok (.goto 26, 3) := by decide +kernel
theorem dX8_beginStatement_88 : decode cX8_beginStatement 88 = .ok (.iload_n 2, 1) := by decide +kernel
theorem dX8_beginStatement_89 : decode cX8_beginStatement 89 = .ok (.bipush 64, 2) := by decide +kernel
theorem dX8_beginStatement_91 : decode cX8_beginStatement 91 = .ok (.if_icmp .ne 7, 3) := by decide +kernel
theorem dX8_beginStatement_94 : decode cX8_beginStatement 94 = .ok (.iconst 5, 1) := by decide +kernel
theorem dX8_beginStatement_95 : decode cX8_beginStatement 95 = .ok (.goto 16, 3) := by decide +kernel
theorem dX8_beginStatement_98 : decode cX8_beginStatement 98 = .ok (.iload_n 2, 1) := by decide +kernel
theorem dX8_beginStatement_99 : decode cX8_beginStatement 99 = .ok (.bipush 33, 2) := by decide +kernel
theorem dX8_beginStatement_101 : decode cX8_beginStatement 101 = .ok (.if_icmp .ne 8, 3) := by decide +kernel
theorem dX8_beginStatement_104 : decode cX8_beginStatement 104 = .ok (.bipush 7, 2) := by decide +kernel
theorem dX8_beginStatement_106 : decode cX8_beginStatement 106 = .ok (.goto 5, 3) := by decide +kernel
theorem dX8_beginStatement_109 : decode cX8_beginStatement 109 = .ok (.bipush 8, 2) := by decide +kernel
theorem dX8_beginStatement_111 : decode cX8_beginStatement 111 = .ok (.iastore, 1) := by decide +kernel
theorem dX8_beginStatement_112 : decode cX8_beginStatement 112 = .ok (.aload_n 0, 1) := by decide +kernel
theorem dX8_beginStatement_113 : decode cX8_beginStatement 113 = .ok (.aload_n 0, 1) := by decide +kernel
theorem dX8_beginStatement_114 : decode cX8_beginStatement 114 = .ok (.getfield 135, 3) := by decide +kernel
theorem dX8_beginStatement_117 : decode cX8_beginStatement 117 = .ok (.ifCond .ne 20, 3) := by decide +kernel
theorem dX8_beginStatement_120 : decode cX8_beginStatement 120 = .ok (.aload_n 0, 1) := by decide +kernel
theorem dX8_beginStatement_121 : decode cX8_beginStatement 121 = .ok (.getfield 40, 3) := by decide +kernel
theorem dX8_beginStatement_124 : decode cX8_beginStatement 124 = .ok (.iload_n 1, 1) := by decide +kernel
theorem dX8_beginStatement_125 : decode cX8_beginStatement 125 = .ok (.iaload, 1) := by decide +kernel
theorem dX8_beginStatement_126 : decode cX8_beginStatement 126 = .ok (.bipush 8, 2) := by decide +kernel
theorem dX8_beginStatement_128 : decode cX8_beginStatement 128 = .ok (.if_icmp .ne 13, 3) := by decide +kernel
theorem dX8_beginStatement_131 : decode cX8_beginStatement 131 = .ok (.iload_n 2, 1) := by decide +kernel
theorem dX8_beginStatement_132 : decode cX8_beginStatement 132 = .ok (.bipush 94, 2) := by decide +kernel
theorem dX8_beginStatement_134 : decode cX8_beginStatement 134 = .ok (.if_icmp .eq 7, 3) := by decide +kernel
theorem dX8_beginStatement_137 : decode cX8_beginStatement 137 = .ok (.iconst 1, 1) := by decide +kernel
theorem dX8_beginStatement_138 : decode cX8_beginStatement 138 = .ok (.goto 4, 3) := by decide +kernel
theorem dX8_beginStatement_141 : decode cX8_beginStatement 141 = .ok (.iconst 0, 1) := by decide +kernel
theorem dX8_beginStatement_142 : decode cX8_beginStatement 142 = .ok (.putfield 135, 3) := by decide +kernel
theorem dX8_beginStatement_145 : decode cX8_beginStatement 145 = .ok (.aload_n 0, 1) := by decide +kernel
theorem dX8_beginStatement_146 : decode cX8_beginStatement 146 = .ok (.getfield 55, 3) := by decide +kernel
theorem dX8_beginStatement_149 : decode cX8_beginStatement 149 = .ok (.iload_n 1, 1) := by decide +kernel
theorem dX8_beginStatement_150 : decode cX8_beginStatement 150 = .ok (.aload_n 0, 1) := by decide +kernel
theorem dX8_beginStatement_151 : decode cX8_beginStatement 151 = .ok (.getfield 150, 3) := by decide +kernel
theorem dX8_beginStatement_154 : decode cX8_beginStatement 154 = .ok (.aload_n 0, 1) := by decide +kernel
theorem dX8_beginStatement_155 : decode cX8_beginStatement 155 = .ok (.getfield 153, 3) := by decide +kernel
theorem dX8_beginStatement_158 : decode cX8_beginStatement 158 = .ok (.iadd, 1) := by decide +kernel
theorem dX8_beginStatement_159 : decode cX8_beginStatement 159 = .ok (.iastore, 1) := by decide +kernel
theorem dX8_beginStatement_160 : decode cX8_beginStatement 160 = .ok (.aload_n 0, 1) := by decide +kernel
theorem dX8_beginStatement_161 : decode cX8_beginStatement 161 = .ok (.iload_n 2, 1) := by decide +kernel
theorem dX8_beginStatement_162 : decode cX8_beginStatement 162 = .ok (.bipush 94, 2) := by decide +kernel
theorem dX8_beginStatement_164 : decode cX8_beginStatement 164 = .ok (.if_icmp .ne 7, 3) := by decide +kernel
theorem dX8_beginStatement_167 : decode cX8_beginStatement 167 = .ok (.iconst 5, 1) := by decide +kernel
theorem dX8_beginStatement_168 : decode cX8_beginStatement 168 = .ok (.goto 4, 3) := by decide +kernel
theorem dX8_beginStatement_171 : decode cX8_beginStatement 171 = .ok (.iconst 2, 1) := by decide +kernel
theorem dX8_beginStatement_172 : decode cX8_beginStatement 172 = .ok (.invokevirtual 171, 3) := by decide +kernel
theorem dX8_beginStatement_175 : decode cX8_beginStatement 175 = .ok (.return_, 1) := by decide +kernel
theorem dX8_endThen_0 : decode cX8_endThen 0 = .ok (.aload_n 0, 1) := by decide +kernel
theorem dX8_endThen_1 : decode cX8_endThen 1 = .ok (.bipush 125, 2) := by decide +kernel
theorem dX8_endThen_3 : decode cX8_endThen 3 = .ok (.invokevirtual 224, 3) := by decide +kernel
theorem dX8_endThen_6 : decode cX8_endThen 6 = .ok (.aload_n 0, 1) := by decide +kernel
theorem dX8_endThen_7 : decode cX8_endThen 7 = .ok (.getfield 49, 3) := by decide +kernel
theorem dX8_endThen_10 : decode cX8_endThen 10 = .ok (.iload_n 1, 1) := by decide +kernel
theorem dX8_endThen_11 : decode cX8_endThen 11 = .ok (.aload_n 0, 1) := by decide +kernel
theorem dX8_endThen_12 : decode cX8_endThen 12 = .ok (.getfield 162, 3) := by decide +kernel
theorem dX8_endThen_15 : decode cX8_endThen 15 = .ok (.iastore, 1) := by decide +kernel
theorem dX8_endThen_16 : decode cX8_endThen 16 = .ok (.aload_n 0, 1) := by decide +kernel
theorem dX8_endThen_17 : decode cX8_endThen 17 = .ok (.invokevirtual 139, 3) := by decide +kernel
theorem dX8_endThen_20 : decode cX8_endThen 20 = .ok (.bipush 123, 2) := by decide +kernel
theorem dX8_endThen_22 : decode cX8_endThen 22 = .ok (.if_icmp .eq 39, 3) := by decide +kernel
theorem dX8_endThen_25 : decode cX8_endThen 25 = .ok (.aload_n 0, 1) := by decide +kernel
theorem dX8_endThen_26 : decode cX8_endThen 26 = .ok (.aload_n 0, 1) := by decide +kernel
theorem dX8_endThen_27 : decode cX8_endThen 27 = .ok (.getfield 52, 3) := by decide +kernel
theorem dX8_endThen_30 : decode cX8_endThen 30 = .ok (.iload_n 1, 1) := by decide +kernel
theorem dX8_endThen_31 : decode cX8_endThen 31 = .ok (.iaload, 1) := by decide +kernel
theorem dX8_endThen_32 : decode cX8_endThen 32 = .ok (.invokevirtual 227, 3) := by decide +kernel
theorem dX8_endThen_35 : decode cX8_endThen 35 = .ok (.aload_n 0, 1) := by decide +kernel
theorem dX8_endThen_36 : decode cX8_endThen 36 = .ok (.iload_n 1, 1) := by decide +kernel
theorem dX8_endThen_37 : decode cX8_endThen 37 = .ok (.aload_n 0, 1) := by decide +kernel
theorem dX8_endThen_38 : decode cX8_endThen 38 = .ok (.bipush 7, 2) := by decide +kernel
theorem dX8_endThen_40 : decode cX8_endThen 40 = .ok (.aload_n 0, 1) := by decide +kernel
theorem dX8_endThen_41 : decode cX8_endThen 41 = .ok (.getfield 43, 3) := by decide +kernel
theorem dX8_endThen_44 : decode cX8_endThen 44 = .ok (.iload_n 1, 1) := by decide +kernel
theorem dX8_endThen_45 : decode cX8_endThen 45 = .ok (.iaload, 1) := by decide +kernel
theorem dX8_endThen_46 : decode cX8_endThen 46 = .ok (.aload_n 0, 1) := by decide +kernel
theorem dX8_endThen_47 : decode cX8_endThen 47 = .ok (.getfield 49, 3) := by decide +kernel
theorem dX8_endThen_50 : decode cX8_endThen 50 = .ok (.iload_n 1, 1) := by decide +kernel
theorem dX8_endThen_51 : decode cX8_endThen 51 = .ok (.iaload, 1) := by decide +kernel
theorem dX8_endThen_52 : decode cX8_endThen 52 = .ok (.iconst (-1), 1) := by decide +kernel
theorem dX8_endThen_53 : decode cX8_endThen 53 = .ok (.iload_n 2, 1) := by decide +kernel
theorem dX8_endThen_54 : decode cX8_endThen 54 = .ok (.invokevirtual 205, 3) := by decide +kernel
theorem dX8_endThen_57 : decode cX8_endThen 57 = .ok (.invokevirtual 215, 3) := by decide +kernel
theorem dX8_endThen_60 : decode cX8_endThen 60 = .ok (.return_, 1) := by decide +kernel
theorem dX8_endThen_61 : decode cX8_endThen 61 = .ok (.aload_n 0, 1) := by decide +kernel
theorem dX8_endThen_62 : decode cX8_endThen 62 = .ok (.bipush 123, 2) := by decide +kernel
theorem dX8_endThen_64 : decode cX8_endThen 64 = .ok (.invokevirtual 218, 3) := by decide +kernel
theorem dX8_endThen_67 : decode cX8_endThen 67 = .ok (.aload_n 0, 1) := by decide +kernel
theorem dX8_endThen_68 : decode cX8_endThen 68 = .ok (.getfield 55, 3) := by decide +kernel
theorem dX8_endThen_71 : decode cX8_endThen 71 = .ok (.iload_n 1, 1) := by decide +kernel
theorem dX8_endThen_72 : decode cX8_endThen 72 = .ok (.aload_n 0, 1) := by decide +kernel
theorem dX8_endThen_73 : decode cX8_endThen 73 = .ok (.bipush 10, 2) := by decide +kernel
theorem dX8_endThen_75 : decode cX8_endThen 75 = .ok (.iconst 0, 1) := by decide +kernel
theorem dX8_endThen_76 : decode cX8_endThen 76 = .ok (.iconst (-1), 1) := by decide +kernel
theorem dX8_endThen_77 : decode cX8_endThen 77 = .ok (.invokevirtual 178, 3) := by decide +kernel
theorem dX8_endThen_80 : decode cX8_endThen 80 = .ok (.iastore, 1) := by decide +kernel
theorem dX8_endThen_81 : decode cX8_endThen 81 = .ok (.aload_n 0, 1) := by decide +kernel
theorem dX8_endThen_82 : decode cX8_endThen 82 = .ok (.aload_n 0, 1) := by decide +kernel
theorem dX8_endThen_83 : decode cX8_endThen 83 = .ok (.getfield 52, 3) := by decide +kernel
theorem dX8_endThen_86 : decode cX8_endThen 86 = .ok (.iload_n 1, 1) := by decide +kernel
theorem dX8_endThen_87 : decode cX8_endThen 87 = .ok (.iaload, 1) := by decide +kernel
theorem dX8_endThen_88 : decode cX8_endThen 88 = .ok (.invokevirtual 227, 3) := by decide +kernel
theorem dX8_endThen_91 : decode cX8_endThen 91 = .ok (.aload_n 0, 1) := by decide +kernel
theorem dX8_endThen_92 : decode cX8_endThen 92 = .ok (.getfield 40, 3) := by decide +kernel
theorem dX8_endThen_95 : decode cX8_endThen 95 = .ok (.iload_n 1, 1) := by decide +kernel
theorem dX8_endThen_96 : decode cX8_endThen 96 = .ok (.iconst 4, 1) := by decide +kernel
theorem dX8_endThen_97 : decode cX8_endThen 97 = .ok (.iastore, 1) := by decide +kernel
theorem dX8_endThen_98 : decode cX8_endThen 98 = .ok (.aload_n 0, 1) := by decide +kernel
theorem dX8_endThen_99 : decode cX8_endThen 99 = .ok (.iconst 0, 1) := by decide +kernel
theorem dX8_endThen_100 : decode cX8_endThen 100 = .ok (.invokevirtual 171, 3) := by decide +kernel
theorem dX8_endThen_103 : decode cX8_endThen 103 = .ok (.return_, 1) := by decide +kernel
theorem dX8_end_0 : decode cX8_end 0 = .ok (.aload_n 0, 1) := by decide +kernel
theorem dX8_end_1 : decode cX8_end 1 = .ok (.aload_n 0, 1) := by decide +kernel
theorem dX8_end_2 : decode cX8_end 2 = .ok (.getfield 46, 3) := by decide +kernel
theorem dX8_end_5 : decode cX8_end 5 = .ok (.iload_n 1, 1) := by decide +kernel
theorem dX8_end_6 : decode cX8_end 6 = .ok (.iaload, 1) := by decide +kernel
theorem dX8_end_7 : decode cX8_end 7 = .ok (.invokevirtual 227, 3) := by decide +kernel
theorem dX8_end_10 : decode cX8_end 10 = .ok (.aload_n 0, 1) := by decide +kernel
theorem dX8_end_11 : decode cX8_end 11 = .ok (.iload_n 2, 1) := by decide +kernel
theorem dX8_end_12 : decode cX8_end 12 = .ok (.invokevirtual 209, 3) := by decide +kernel
theorem dX8_end_15 : decode cX8_end 15 = .ok (.return_, 1) := by decide +kernel
theorem dX8_stepChain_0 : decode cX8_stepChain 0 = .ok (.aload_n 0, 1) := by decide +kernel
theorem dX8_stepChain_1 : decode cX8_stepChain 1 = .ok (.getfield 40, 3) := by decide +kernel
theorem dX8_stepChain_4 : decode cX8_stepChain 4 = .ok (.iload_n 1, 1) := by decide +kernel
theorem dX8_stepChain_5 : decode cX8_stepChain 5 = .ok (.iaload, 1) := by decide +kernel
theorem dX8_stepChain_6 : decode cX8_stepChain 6 = .ok (.ifCond .ne 16, 3) := by decide +kernel
theorem dX8_stepChain_9 : decode cX8_stepChain 9 = .ok (.aload_n 0, 1) := by decide +kernel
theorem dX8_stepChain_10 : decode cX8_stepChain 10 = .ok (.getfield 40, 3) := by decide +kernel
theorem dX8_stepChain_13 : decode cX8_stepChain 13 = .ok (.iload_n 1, 1) := by decide +kernel
theorem dX8_stepChain_14 : decode cX8_stepChain 14 = .ok (.iconst 1, 1) := by decide +kernel
theorem dX8_stepChain_15 : decode cX8_stepChain 15 = .ok (.iastore, 1) := by decide +kernel
theorem dX8_stepChain_16 : decode cX8_stepChain 16 = .ok (.aload_n 0, 1) := by decide +kernel
theorem dX8_stepChain_17 : decode cX8_stepChain 17 = .ok (.iload_n 3, 1) := by decide +kernel
theorem dX8_stepChain_18 : decode cX8_stepChain 18 = .ok (.invokevirtual 171, 3) := by decide +kernel
theorem dX8_stepChain_21 : decode cX8_stepChain 21 = .ok (.return_, 1) := by decide +kernel
theorem dX8_stepChain_22 : decode cX8_stepChain 22 = .ok (.aload_n 0, 1) := by decide +kernel
theorem dX8_stepChain_23 : decode cX8_stepChain 23 = .ok (.getfield 43, 3) := by decide +kernel
theorem dX8_stepChain_26 : decode cX8_stepChain 26 = .ok (.iload_n 1, 1) := by decide +kernel
theorem dX8_stepChain_27 : decode cX8_stepChain 27 = .ok (.iaload, 1) := by decide +kernel
theorem dX8_stepChain_28 : decode cX8_stepChain 28 = .ok (.iconst (-1), 1) := by decide +kernel
theorem dX8_stepChain_29 : decode cX8_stepChain 29 = .ok (.if_icmp .eq 49, 3) := by decide +kernel
theorem dX8_stepChain_32 : decode cX8_stepChain 32 = .ok (.aload_n 0, 1) := by decide +kernel
theorem dX8_stepChain_33 : decode cX8_stepChain 33 = .ok (.aload_n 0, 1) := by decide +kernel
theorem dX8_stepChain_34 : decode cX8_stepChain 34 = .ok (.getfield 46, 3) := by decide +kernel
theorem dX8_stepChain_37 : decode cX8_stepChain 37 = .ok (.iload_n 1, 1) := by decide +kernel
theorem dX8_stepChain_38 : decode cX8_stepChain 38 = .ok (.iaload, 1) := by decide +kernel
theorem dX8_stepChain_39 : decode cX8_stepChain 39 = .ok (.invokevirtual 227, 3) := by decide +kernel
theorem dX8_stepChain_42 : decode cX8_stepChain 42 = .ok (.aload_n 0, 1) := by decide +kernel
theorem dX8_stepChain_43 : decode cX8_stepChain 43 = .ok (.getfield 43, 3) := by decide +kernel
theorem dX8_stepChain_46 : decode cX8_stepChain 46 = .ok (.iload_n 1, 1) := by decide +kernel
theorem dX8_stepChain_47 : decode cX8_stepChain 47 = .ok (.aload_n 0, 1) := by decide +kernel
theorem dX8_stepChain_48 : decode cX8_stepChain 48 = .ok (.iconst 5, 1) := by decide +kernel
theorem dX8_stepChain_49 : decode cX8_stepChain 49 = .ok (.iload_n 2, 1) := by decide +kernel
theorem dX8_stepChain_50 : decode cX8_stepChain 50 = .ok (.aload_n 0, 1) := by decide +kernel
theorem dX8_stepChain_51 : decode cX8_stepChain 51 = .ok (.getfield 43, 3) := by decide +kernel
theorem dX8_stepChain_54 : decode cX8_stepChain 54 = .ok (.iload_n 1, 1) := by decide +kernel
theorem dX8_stepChain_55 : decode cX8_stepChain 55 = .ok (.iaload, 1) := by decide +kernel
theorem dX8_stepChain_56 : decode cX8_stepChain 56 = .ok (.aload_n 0, 1) := by decide +kernel
theorem dX8_stepChain_57 : decode cX8_stepChain 57 = .ok (.getfield 162, 3) := by decide +kernel
theorem dX8_stepChain_60 : decode cX8_stepChain 60 = .ok (.aload_n 0, 1) := by decide +kernel
theorem dX8_stepChain_61 : decode cX8_stepChain 61 = .ok (.getfield 19, 3) := by decide +kernel
theorem dX8_stepChain_64 : decode cX8_stepChain 64 = .ok (.aload_n 0, 1) := by decide +kernel
theorem dX8_stepChain_65 : decode cX8_stepChain 65 = .ok (.getfield 46, 3) := by decide +kernel
theorem dX8_stepChain_68 : decode cX8_stepChain 68 = .ok (.iload_n 1, 1) := by decide +kernel
theorem dX8_stepChain_69 : decode cX8_stepChain 69 = .ok (.iaload, 1) := by decide +kernel
theorem dX8_stepChain_70 : decode cX8_stepChain 70 = .ok (.iaload, 1) := by decide +kernel
theorem dX8_stepChain_71 : decode cX8_stepChain 71 = .ok (.invokevirtual 205, 3) := by decide +kernel
theorem dX8_stepChain_74 : decode cX8_stepChain 74 = .ok (.iastore, 1) := by decide +kernel
theorem dX8_stepChain_75 : decode cX8_stepChain 75 = .ok (.goto 13, 3) := by decide +kernel
theorem dX8_stepChain_78 : decode cX8_stepChain 78 = .ok (.aload_n 0, 1) := by decide +kernel
theorem dX8_stepChain_79 : decode cX8_stepChain 79 = .ok (.getfield 43, 3) := by decide +kernel
theorem dX8_stepChain_82 : decode cX8_stepChain 82 = .ok (.iload_n 1, 1) := by decide +kernel
theorem dX8_stepChain_83 : decode cX8_stepChain 83 = .ok (.aload_n 0, 1) := by decide +kernel
theorem dX8_stepChain_84 : decode cX8_stepChain 84 = .ok (.getfield 162, 3) := by decide +kernel
theorem dX8_stepChain_87 : decode cX8_stepChain 87 = .ok (.iastore, 1) := by decide +kernel
theorem dX8_stepChain_88 : decode cX8_stepChain 88 = .ok (.aload_n 0, 1) := by decide +kernel
theorem dX8_stepChain_89 : decode cX8_stepChain 89 = .ok (.invokevirtual 139, 3) := by decide +kernel
theorem dX8_stepChain_92 : decode cX8_stepChain 92 = .ok (.iload_n 2, 1) := by decide +kernel
theorem dX8_stepChain_93 : decode cX8_stepChain 93 = .ok (.if_icmp .eq 14, 3) := by decide +kernel
theorem dX8_stepChain_96 : decode cX8_stepChain 96 = .ok (.aload_n 0, 1) := by decide +kernel
theorem dX8_stepChain_97 : decode cX8_stepChain 97 = .ok (.aload_n 0, 1) := by decide +kernel
theorem dX8_stepChain_98 : decode cX8_stepChain 98 = .ok (.getfield 43, 3) := by decide +kernel
theorem dX8_stepChain_101 : decode cX8_stepChain 101 = .ok (.iload_n 1, 1) := by decide +kernel
theorem dX8_stepChain_102 : decode cX8_stepChain 102 = .ok (.iaload, 1) := by decide +kernel
theorem dX8_stepChain_103 : decode cX8_stepChain 103 = .ok (.invokevirtual 209, 3) := by decide +kernel
theorem dX8_stepChain_106 : decode cX8_stepChain 106 = .ok (.return_, 1) := by decide +kernel
theorem dX8_stepChain_107 : decode cX8_stepChain 107 = .ok (.aload_n 0, 1) := by decide +kernel
theorem dX8_stepChain_108 : decode cX8_stepChain 108 = .ok (.getfield 46, 3) := by decide +kernel
theorem dX8_stepChain_111 : decode cX8_stepChain 111 = .ok (.iload_n 1, 1) := by decide +kernel
theorem dX8_stepChain_112 : decode cX8_stepChain 112 = .ok (.aload_n 0, 1) := by decide +kernel
theorem dX8_stepChain_113 : decode cX8_stepChain 113 = .ok (.iload_n 2, 1) := by decide +kernel
theorem dX8_stepChain_114 : decode cX8_stepChain 114 = .ok (.bipush 38, 2) := by decide +kernel
theorem dX8_stepChain_116 : decode cX8_stepChain 116 = .ok (.if_icmp .ne 8, 3) := by decide +kernel
theorem dX8_stepChain_119 : decode cX8_stepChain 119 = .ok (.bipush 7, 2) := by decide +kernel
theorem dX8_stepChain_121 : decode cX8_stepChain 121 = .ok (.goto 5, 3) := by decide +kernel
theorem dX8_stepChain_124 : decode cX8_stepChain 124 = .ok (.bipush 15, 2) := by decide +kernel
theorem dX8_stepChain_126 : decode cX8_stepChain 126 = .ok (.iconst 0, 1) := by decide +kernel
theorem dX8_stepChain_127 : decode cX8_stepChain 127 = .ok (.aload_n 0, 1) := by decide +kernel
theorem dX8_stepChain_128 : decode cX8_stepChain 128 = .ok (.getfield 132, 3) := by decide +kernel
theorem dX8_stepChain_131 : decode cX8_stepChain 131 = .ok (.invokevirtual 178, 3) := by decide +kernel
theorem dX8_stepChain_134 : decode cX8_stepChain 134 = .ok (.iastore, 1) := by decide +kernel
theorem dX8_stepChain_135 : decode cX8_stepChain 135 = .ok (.aload_n 0, 1) := by decide +kernel
theorem dX8_stepChain_136 : decode cX8_stepChain 136 = .ok (.dup, 1) := by decide +kernel
theorem dX8_stepChain_137 : decode cX8_stepChain 137 = .ok (.getfield 132, 3) := by decide +kernel
theorem dX8_stepChain_140 : decode cX8_stepChain 140 = .ok (.iconst 1, 1) := by decide +kernel
theorem dX8_stepChain_141 : decode cX8_stepChain 141 = .ok (.iadd, 1) := by decide +kernel
theorem dX8_stepChain_142 : decode cX8_stepChain 142 = .ok (.putfield 132, 3) := by decide +kernel
theorem dX8_stepChain_145 : decode cX8_stepChain 145 = .ok (.aload_n 0, 1) := by decide +kernel
theorem dX8_stepChain_146 : decode cX8_stepChain 146 = .ok (.iload_n 3, 1) := by decide +kernel
theorem dX8_stepChain_147 : decode cX8_stepChain 147 = .ok (.invokevirtual 171, 3) := by decide +kernel
theorem dX8_stepChain_150 : decode cX8_stepChain 150 = .ok (.return_, 1) := by decide +kernel
theorem dX8_stepAtom_0 : decode cX8_stepAtom 0 = .ok (.aload_n 0, 1) := by decide +kernel
theorem dX8_stepAtom_1 : decode cX8_stepAtom 1 = .ok (.getfield 40, 3) := by decide +kernel
theorem dX8_stepAtom_4 : decode cX8_stepAtom 4 = .ok (.iload_n 1, 1) := by decide +kernel
theorem dX8_stepAtom_5 : decode cX8_stepAtom 5 = .ok (.iaload, 1) := by decide +kernel
theorem dX8_stepAtom_6 : decode cX8_stepAtom 6 = .ok (.tableswitch 191 0 2 #[26, 84, 101], 26) := by decide +kernel
theorem dX8_stepAtom_32 : decode cX8_stepAtom 32 = .ok (.aload_n 0, 1) := by decide +kernel
theorem dX8_stepAtom_33 : decode cX8_stepAtom 33 = .ok (.getfield 40, 3) := by decide +kernel
theorem dX8_stepAtom_36 : decode cX8_stepAtom 36 = .ok (.iload_n 1, 1) := by decide +kernel
theorem dX8_stepAtom_37 : decode cX8_stepAtom 37 = .ok (.aload_n 0, 1) := by decide +kernel
theorem dX8_stepAtom_38 : decode cX8_stepAtom 38 = .ok (.invokevirtual 139, 3) := by decide +kernel
theorem dX8_stepAtom_41 : decode cX8_stepAtom 41 = .ok (.bipush 91, 2) := by decide +kernel
theorem dX8_stepAtom_43 : decode cX8_stepAtom 43 = .ok (.if_icmp .ne 7, 3) := by decide +kernel
theorem dX8_stepAtom_46 : decode cX8_stepAtom 46 = .ok (.iconst 1, 1) := by decide +kernel
theorem dX8_stepAtom_47 : decode cX8_stepAtom 47 = .ok (.goto 4, 3) := by decide +kernel
theorem dX8_stepAtom_50 : decode cX8_stepAtom 50 = .ok (.iconst 2, 1) := by decide +kernel
theorem dX8_stepAtom_51 : decode cX8_stepAtom 51 = .ok (.iastore, 1) := by decide +kernel
theorem dX8_stepAtom_52 : decode cX8_stepAtom 52 = .ok (.aload_n 0, 1) := by decide +kernel
theorem dX8_stepAtom_53 : decode cX8_stepAtom 53 = .ok (.getfield 40, 3) := by decide +kernel
theorem dX8_stepAtom_56 : decode cX8_stepAtom 56 = .ok (.iload_n 1, 1) := by decide +kernel
theorem dX8_stepAtom_57 : decode cX8_stepAtom 57 = .ok (.iaload, 1) := by decide +kernel
theorem dX8_stepAtom_58 : decode cX8_stepAtom 58 = .ok (.iconst 1, 1) := by decide +kernel
theorem dX8_stepAtom_59 : decode cX8_stepAtom 59 = .ok (.if_icmp .ne 9, 3) := by decide +kernel
theorem dX8_stepAtom_62 : decode cX8_stepAtom 62 = .ok (.aload_n 0, 1) := by decide +kernel
theorem dX8_stepAtom_63 : decode cX8_stepAtom 63 = .ok (.bipush 91, 2) := by decide +kernel
theorem dX8_stepAtom_65 : decode cX8_stepAtom 65 = .ok (.invokevirtual 218, 3) := by decide +kernel
theorem dX8_stepAtom_68 : decode cX8_stepAtom 68 = .ok (.aload_n 0, 1) := by decide +kernel
theorem dX8_stepAtom_69 : decode cX8_stepAtom 69 = .ok (.aload_n 0, 1) := by decide +kernel
theorem dX8_stepAtom_70 : decode cX8_stepAtom 70 = .ok (.getfield 40, 3) := by decide +kernel
theorem dX8_stepAtom_73 : decode cX8_stepAtom 73 = .ok (.iload_n 1, 1) := by decide +kernel
theorem dX8_stepAtom_74 : decode cX8_stepAtom 74 = .ok (.iaload, 1) := by decide +kernel
theorem dX8_stepAtom_75 : decode cX8_stepAtom 75 = .ok (.iconst 1, 1) := by decide +kernel
theorem dX8_stepAtom_76 : decode cX8_stepAtom 76 = .ok (.if_icmp .ne 7, 3) := by decide +kernel
theorem dX8_stepAtom_79 : decode cX8_stepAtom 79 = .ok (.iconst 2, 1) := by decide +kernel
theorem dX8_stepAtom_80 : decode cX8_stepAtom 80 = .ok (.goto 4, 3) := by decide +kernel
theorem dX8_stepAtom_83 : decode cX8_stepAtom 83 = .ok (.iconst 5, 1) := by decide +kernel
theorem dX8_stepAtom_84 : decode cX8_stepAtom 84 = .ok (.invokevirtual 171, 3) := by decide +kernel
theorem dX8_stepAtom_87 : decode cX8_stepAtom 87 = .ok (.goto 170, 3) := by decide +kernel
theorem dX8_stepAtom_90 : decode cX8_stepAtom 90 = .ok (.aload_n 0, 1) := by decide +kernel
theorem dX8_stepAtom_91 : decode cX8_stepAtom 91 = .ok (.bipush 93, 2) := by decide +kernel
theorem dX8_stepAtom_93 : decode cX8_stepAtom 93 = .ok (.invokevirtual 224, 3) := by decide +kernel
theorem dX8_stepAtom_96 : decode cX8_stepAtom 96 = .ok (.aload_n 0, 1) := by decide +kernel
theorem dX8_stepAtom_97 : decode cX8_stepAtom 97 = .ok (.aload_n 0, 1) := by decide +kernel
theorem dX8_stepAtom_98 : decode cX8_stepAtom 98 = .ok (.getfield 162, 3) := by decide +kernel
theorem dX8_stepAtom_101 : decode cX8_stepAtom 101 = .ok (.invokevirtual 209, 3) := by decide +kernel
theorem dX8_stepAtom_104 : decode cX8_stepAtom 104 = .ok (.goto 153, 3) := by decide +kernel
theorem dX8_stepAtom_107 : decode cX8_stepAtom 107 = .ok (.aload_n 0, 1) := by decide +kernel
theorem dX8_stepAtom_108 : decode cX8_stepAtom 108 = .ok (.invokevirtual 139, 3) := by decide +kernel
theorem dX8_stepAtom_111 : decode cX8_stepAtom 111 = .ok (.istore_n 2, 1) := by decide +kernel
theorem dX8_stepAtom_112 : decode cX8_stepAtom 112 = .ok (.aload_n 0, 1) := by decide +kernel
theorem dX8_stepAtom_113 : decode cX8_stepAtom 113 = .ok (.aload_n 0, 1) := by decide +kernel
theorem dX8_stepAtom_114 : decode cX8_stepAtom 114 = .ok (.getfield 135, 3) := by decide +kernel
theorem dX8_stepAtom_117 : decode cX8_stepAtom 117 = .ok (.ifCond .ne 27, 3) := by decide +kernel
theorem dX8_stepAtom_120 : decode cX8_stepAtom 120 = .ok (.iload_n 2, 1) := by decide +kernel
theorem dX8_stepAtom_121 : decode cX8_stepAtom 121 = .ok (.bipush 60, 2) := by decide +kernel
theorem dX8_stepAtom_123 : decode cX8_stepAtom 123 = .ok (.if_icmp .eq 25, 3) := by decide +kernel
theorem dX8_stepAtom_126 : decode cX8_stepAtom 126 = .ok (.iload_n 2, 1) := by decide +kernel
theorem dX8_stepAtom_127 : decode cX8_stepAtom 127 = .ok (.bipush 62, 2) := by decide +kernel
theorem dX8_stepAtom_129 : decode cX8_stepAtom 129 = .ok (.if_icmp .eq 19, 3) := by decide +kernel
theorem dX8_stepAtom_132 : decode cX8_stepAtom 132 = .ok (.iload_n 2, 1) := by decide +kernel
theorem dX8_stepAtom_133 : decode cX8_stepAtom 133 = .ok (.bipush 61, 2) := by decide +kernel
theorem dX8_stepAtom_135 : decode cX8_stepAtom 135 = .ok (.if_icmp .eq 13, 3) := by decide +kernel
theorem dX8_stepAtom_138 : decode cX8_stepAtom 138 = .ok (.iload_n 2, 1) := by decide +kernel
theorem dX8_stepAtom_139 : decode cX8_stepAtom 139 = .ok (.bipush 35, 2) := by decide +kernel
theorem dX8_stepAtom_141 : decode cX8_stepAtom 141 = .ok (.if_icmp .eq 7, 3) := by decide +kernel
theorem dX8_stepAtom_144 : decode cX8_stepAtom 144 = .ok (.iconst 1, 1) := by decide +kernel
theorem dX8_stepAtom_145 : decode cX8_stepAtom 145 = .ok (.goto 4, 3) := by decide +kernel
theorem dX8_stepAtom_148 : decode cX8_stepAtom 148 = .ok (.iconst 0, 1) := by decide +kernel
theorem dX8_stepAtom_149 : decode cX8_stepAtom 149 = .ok (.putfield 135, 3) := by decide +kernel
theorem dX8_stepAtom_152 : decode cX8_stepAtom 152 = .ok (.aload_n 0, 1) := by decide +kernel
theorem dX8_stepAtom_153 : decode cX8_stepAtom 153 = .ok (.getfield 43, 3) := by decide +kernel
theorem dX8_stepAtom_156 : decode cX8_stepAtom 156 = .ok (.iload_n 1, 1) := by decide +kernel
theorem dX8_stepAtom_157 : decode cX8_stepAtom 157 = .ok (.aload_n 0, 1) := by decide +kernel
theorem dX8_stepAtom_158 : decode cX8_stepAtom 158 = .ok (.getfield 162, 3) := by decide +kernel
theorem dX8_stepAtom_161 : decode cX8_stepAtom 161 = .ok (.iastore, 1) := by decide +kernel
theorem dX8_stepAtom_162 : decode cX8_stepAtom 162 = .ok (.aload_n 0, 1) := by decide +kernel
theorem dX8_stepAtom_163 : decode cX8_stepAtom 163 = .ok (.getfield 46, 3) := by decide +kernel
theorem dX8_stepAtom_166 : decode cX8_stepAtom 166 = .ok (.iload_n 1, 1) := by decide +kernel
theorem dX8_stepAtom_167 : decode cX8_stepAtom 167 = .ok (.aload_n 0, 1) := by decide +kernel
theorem dX8_stepAtom_168 : decode cX8_stepAtom 168 = .ok (.getfield 132, 3) := by decide +kernel
theorem dX8_stepAtom_171 : decode cX8_stepAtom 171 = .ok (.iastore, 1) := by decide +kernel
theorem dX8_stepAtom_172 : decode cX8_stepAtom 172 = .ok (.aload_n 0, 1) := by decide +kernel
theorem dX8_stepAtom_173 : decode cX8_stepAtom 173 = .ok (.dup, 1) := by decide +kernel
theorem dX8_stepAtom_174 : decode cX8_stepAtom 174 = .ok (.getfield 132, 3) := by decide +kernel
theorem dX8_stepAtom_177 : decode cX8_stepAtom 177 = .ok (.iconst 1, 1) := by decide +kernel
theorem dX8_stepAtom_178 : decode cX8_stepAtom 178 = .ok (.iadd, 1) := by decide +kernel
theorem dX8_stepAtom_179 : decode cX8_stepAtom 179 = .ok (.putfield 132, 3) := by decide +kernel
theorem dX8_stepAtom_182 : decode cX8_stepAtom 182 = .ok (.aload_n 0, 1) := by decide +kernel
theorem dX8_stepAtom_183 : decode cX8_stepAtom 183 = .ok (.getfield 40, 3) := by decide +kernel
theorem dX8_stepAtom_186 : decode cX8_stepAtom 186 = .ok (.iload_n 1, 1) := by decide +kernel
theorem dX8_stepAtom_187 : decode cX8_stepAtom 187 = .ok (.iconst 3, 1) := by decide +kernel
theorem dX8_stepAtom_188 : decode cX8_stepAtom 188 = .ok (.iastore, 1) := by decide +kernel
theorem dX8_stepAtom_189 : decode cX8_stepAtom 189 = .ok (.aload_n 0, 1) := by decide +kernel
theorem dX8_stepAtom_190 : decode cX8_stepAtom 190 = .ok (.iconst 5, 1) := by decide +kernel
theorem dX8_stepAtom_191 : decode cX8_stepAtom 191 = .ok (.invokevirtual 171, 3) := by decide +kernel
theorem dX8_stepAtom_194 : decode cX8_stepAtom 194 = .ok (.goto 63, 3) := by decide +kernel
theorem dX8_stepAtom_197 : decode cX8_stepAtom 197 = .ok (.aload_n 0, 1) := by decide +kernel
theorem dX8_stepAtom_198 : decode cX8_stepAtom 198 = .ok (.bipush 6, 2) := by decide +kernel
theorem dX8_stepAtom_200 : decode cX8_stepAtom 200 = .ok (.aload_n 0, 1) := by decide +kernel
theorem dX8_stepAtom_201 : decode cX8_stepAtom 201 = .ok (.getfield 7, 3) := by decide +kernel
theorem dX8_stepAtom_204 : decode cX8_stepAtom 204 = .ok (.aload_n 0, 1) := by decide +kernel
theorem dX8_stepAtom_205 : decode cX8_stepAtom 205 = .ok (.getfield 46, 3) := by decide +kernel
theorem dX8_stepAtom_208 : decode cX8_stepAtom 208 = .ok (.iload_n 1, 1) := by decide +kernel
theorem dX8_stepAtom_209 : decode cX8_stepAtom 209 = .ok (.iaload, 1) := by decide +kernel
theorem dX8_stepAtom_210 : decode cX8_stepAtom 210 = .ok (.iaload, 1) := by decide +kernel
theorem dX8_stepAtom_211 : decode cX8_stepAtom 211 = .ok (.aload_n 0, 1) := by decide +kernel
theorem dX8_stepAtom_212 : decode cX8_stepAtom 212 = .ok (.getfield 46, 3) := by decide +kernel
theorem dX8_stepAtom_215 : decode cX8_stepAtom 215 = .ok (.iload_n 1, 1) := by decide +kernel
theorem dX8_stepAtom_216 : decode cX8_stepAtom 216 = .ok (.iaload, 1) := by decide +kernel
theorem dX8_stepAtom_217 : decode cX8_stepAtom 217 = .ok (.invokevirtual 178, 3) := by decide +kernel
theorem dX8_stepAtom_220 : decode cX8_stepAtom 220 = .ok (.pop, 1) := by decide +kernel
theorem dX8_stepAtom_221 : decode cX8_stepAtom 221 = .ok (.aload_n 0, 1) := by decide +kernel
theorem dX8_stepAtom_222 : decode cX8_stepAtom 222 = .ok (.aload_n 0, 1) := by decide +kernel
theorem dX8_stepAtom_223 : decode cX8_stepAtom 223 = .ok (.iconst 4, 1) := by decide +kernel
theorem dX8_stepAtom_224 : decode cX8_stepAtom 224 = .ok (.aload_n 0, 1) := by decide +kernel
theorem dX8_stepAtom_225 : decode cX8_stepAtom 225 = .ok (.getfield 7, 3) := by decide +kernel
theorem dX8_stepAtom_228 : decode cX8_stepAtom 228 = .ok (.aload_n 0, 1) := by decide +kernel
theorem dX8_stepAtom_229 : decode cX8_stepAtom 229 = .ok (.getfield 46, 3) := by decide +kernel
theorem dX8_stepAtom_232 : decode cX8_stepAtom 232 = .ok (.iload_n 1, 1) := by decide +kernel
theorem dX8_stepAtom_233 : decode cX8_stepAtom 233 = .ok (.iaload, 1) := by decide +kernel
theorem dX8_stepAtom_234 : decode cX8_stepAtom 234 = .ok (.iaload, 1) := by decide +kernel
theorem dX8_stepAtom_235 : decode cX8_stepAtom 235 = .ok (.aload_n 0, 1) := by decide +kernel
theorem dX8_stepAtom_236 : decode cX8_stepAtom 236 = .ok (.getfield 43, 3) := by decide +kernel
theorem dX8_stepAtom_239 : decode cX8_stepAtom 239 = .ok (.iload_n 1, 1) := by decide +kernel
theorem dX8_stepAtom_240 : decode cX8_stepAtom 240 = .ok (.iaload, 1) := by decide +kernel
theorem dX8_stepAtom_241 : decode cX8_stepAtom 241 = .ok (.aload_n 0, 1) := by decide +kernel
theorem dX8_stepAtom_242 : decode cX8_stepAtom 242 = .ok (.getfield 162, 3) := by decide +kernel
theorem dX8_stepAtom_245 : decode cX8_stepAtom 245 = .ok (.aload_n 0, 1) := by decide +kernel
theorem dX8_stepAtom_246 : decode cX8_stepAtom 246 = .ok (.getfield 46, 3) := by decide +kernel
theorem dX8_stepAtom_249 : decode cX8_stepAtom 249 = .ok (.iload_n 1, 1) := by decide +kernel
theorem dX8_stepAtom_250 : decode cX8_stepAtom 250 = .ok (.iaload, 1) := by decide +kernel
theorem dX8_stepAtom_251 : decode cX8_stepAtom 251 = .ok (.invokevirtual 205, 3) := by decide +kernel
theorem dX8_stepAtom_254 : decode cX8_stepAtom 254 = .ok (.invokevirtual 209, 3) := by decide +kernel
theorem dX8_stepAtom_257 : decode cX8_stepAtom 257 = .ok (.return_, 1) := by decide +kernel
theorem dX8_stepSum_0 : decode cX8_stepSum 0 = .ok (.aload_n 0, 1) := by decide +kernel
theorem dX8_stepSum_1 : decode cX8_stepSum 1 = .ok (.getfield 40, 3) := by decide +kernel
theorem dX8_stepSum_4 : decode cX8_stepSum 4 = .ok (.iload_n 1, 1) := by decide +kernel
theorem dX8_stepSum_5 : decode cX8_stepSum 5 = .ok (.iaload, 1) := by decide +kernel
theorem dX8_stepSum_6 : decode cX8_stepSum 6 = .ok (.ifCond .ne 16, 3) := by decide +kernel
theorem dX8_stepSum_9 : decode cX8_stepSum 9 = .ok (.aload_n 0, 1) := by decide +kernel
theorem dX8_stepSum_10 : decode cX8_stepSum 10 = .ok (.getfield 40, 3) := by decide +kernel
theorem dX8_stepSum_13 : decode cX8_stepSum 13 = .ok (.iload_n 1, 1) := by decide +kernel
theorem dX8_stepSum_14 : decode cX8_stepSum 14 = .ok (.iconst 1, 1) := by decide +kernel
theorem dX8_stepSum_15 : decode cX8_stepSum 15 = .ok (.iastore, 1) := by decide +kernel
theorem dX8_stepSum_16 : decode cX8_stepSum 16 = .ok (.aload_n 0, 1) := by decide +kernel
theorem dX8_stepSum_17 : decode cX8_stepSum 17 = .ok (.iload_n 2, 1) := by decide +kernel
theorem dX8_stepSum_18 : decode cX8_stepSum 18 = .ok (.invokevirtual 171, 3) := by decide +kernel
theorem dX8_stepSum_21 : decode cX8_stepSum 21 = .ok (.return_, 1) := by decide +kernel
theorem dX8_stepSum_22 : decode cX8_stepSum 22 = .ok (.aload_n 0, 1) := by decide +kernel
theorem dX8_stepSum_23 : decode cX8_stepSum 23 = .ok (.getfield 43, 3) := by decide +kernel
theorem dX8_stepSum_26 : decode cX8_stepSum 26 = .ok (.iload_n 1, 1) := by decide +kernel
theorem dX8_stepSum_27 : decode cX8_stepSum 27 = .ok (.iaload, 1) := by decide +kernel
theorem dX8_stepSum_28 : decode cX8_stepSum 28 = .ok (.iconst (-1), 1) := by decide +kernel
theorem dX8_stepSum_29 : decode cX8_stepSum 29 = .ok (.if_icmp .eq 67, 3) := by decide +kernel
theorem dX8_stepSum_32 : decode cX8_stepSum 32 = .ok (.aload_n 0, 1) := by decide +kernel
theorem dX8_stepSum_33 : decode cX8_stepSum 33 = .ok (.iconst 5, 1) := by decide +kernel
theorem dX8_stepSum_34 : decode cX8_stepSum 34 = .ok (.aload_n 0, 1) := by decide +kernel
theorem dX8_stepSum_35 : decode cX8_stepSum 35 = .ok (.getfield 7, 3) := by decide +kernel
theorem dX8_stepSum_38 : decode cX8_stepSum 38 = .ok (.aload_n 0, 1) := by decide +kernel
theorem dX8_stepSum_39 : decode cX8_stepSum 39 = .ok (.getfield 46, 3) := by decide +kernel
theorem dX8_stepSum_42 : decode cX8_stepSum 42 = .ok (.iload_n 1, 1) := by decide +kernel
theorem dX8_stepSum_43 : decode cX8_stepSum 43 = .ok (.iaload, 1) := by decide +kernel
theorem dX8_stepSum_44 : decode cX8_stepSum 44 = .ok (.iaload, 1) := by decide +kernel
theorem dX8_stepSum_45 : decode cX8_stepSum 45 = .ok (.aload_n 0, 1) := by decide +kernel
theorem dX8_stepSum_46 : decode cX8_stepSum 46 = .ok (.getfield 46, 3) := by decide +kernel
theorem dX8_stepSum_49 : decode cX8_stepSum 49 = .ok (.iload_n 1, 1) := by decide +kernel
theorem dX8_stepSum_50 : decode cX8_stepSum 50 = .ok (.iaload, 1) := by decide +kernel
theorem dX8_stepSum_51 : decode cX8_stepSum 51 = .ok (.invokevirtual 178, 3) := by decide +kernel
theorem dX8_stepSum_54 : decode cX8_stepSum 54 = .ok (.pop, 1) := by decide +kernel
theorem dX8_stepSum_55 : decode cX8_stepSum 55 = .ok (.aload_n 0, 1) := by decide +kernel
theorem dX8_stepSum_56 : decode cX8_stepSum 56 = .ok (.getfield 43, 3) := by decide +kernel
theorem dX8_stepSum_59 : decode cX8_stepSum 59 = .ok (.iload_n 1, 1) := by decide +kernel
theorem dX8_stepSum_60 : decode cX8_stepSum 60 = .ok (.aload_n 0, 1) := by decide +kernel
theorem dX8_stepSum_61 : decode cX8_stepSum 61 = .ok (.iconst 3, 1) := by decide +kernel
theorem dX8_stepSum_62 : decode cX8_stepSum 62 = .ok (.aload_n 0, 1) := by decide +kernel
theorem dX8_stepSum_63 : decode cX8_stepSum 63 = .ok (.getfield 7, 3) := by decide +kernel
theorem dX8_stepSum_66 : decode cX8_stepSum 66 = .ok (.aload_n 0, 1) := by decide +kernel
theorem dX8_stepSum_67 : decode cX8_stepSum 67 = .ok (.getfield 46, 3) := by decide +kernel
theorem dX8_stepSum_70 : decode cX8_stepSum 70 = .ok (.iload_n 1, 1) := by decide +kernel
theorem dX8_stepSum_71 : decode cX8_stepSum 71 = .ok (.iaload, 1) := by decide +kernel
theorem dX8_stepSum_72 : decode cX8_stepSum 72 = .ok (.iaload, 1) := by decide +kernel
theorem dX8_stepSum_73 : decode cX8_stepSum 73 = .ok (.aload_n 0, 1) := by decide +kernel
theorem dX8_stepSum_74 : decode cX8_stepSum 74 = .ok (.getfield 43, 3) := by decide +kernel
theorem dX8_stepSum_77 : decode cX8_stepSum 77 = .ok (.iload_n 1, 1) := by decide +kernel
theorem dX8_stepSum_78 : decode cX8_stepSum 78 = .ok (.iaload, 1) := by decide +kernel
theorem dX8_stepSum_79 : decode cX8_stepSum 79 = .ok (.aload_n 0, 1) := by decide +kernel
theorem dX8_stepSum_80 : decode cX8_stepSum 80 = .ok (.getfield 162, 3) := by decide +kernel
theorem dX8_stepSum_83 : decode cX8_stepSum 83 = .ok (.aload_n 0, 1) := by decide +kernel
theorem dX8_stepSum_84 : decode cX8_stepSum 84 = .ok (.getfield 46, 3) := by decide +kernel
theorem dX8_stepSum_87 : decode cX8_stepSum 87 = .ok (.iload_n 1, 1) := by decide +kernel
theorem dX8_stepSum_88 : decode cX8_stepSum 88 = .ok (.iaload, 1) := by decide +kernel
theorem dX8_stepSum_89 : decode cX8_stepSum 89 = .ok (.invokevirtual 205, 3) := by decide +kernel
theorem dX8_stepSum_92 : decode cX8_stepSum 92 = .ok (.iastore, 1) := by decide +kernel
theorem dX8_stepSum_93 : decode cX8_stepSum 93 = .ok (.goto 13, 3) := by decide +kernel
theorem dX8_stepSum_96 : decode cX8_stepSum 96 = .ok (.aload_n 0, 1) := by decide +kernel
theorem dX8_stepSum_97 : decode cX8_stepSum 97 = .ok (.getfield 43, 3) := by decide +kernel
theorem dX8_stepSum_100 : decode cX8_stepSum 100 = .ok (.iload_n 1, 1) := by decide +kernel
theorem dX8_stepSum_101 : decode cX8_stepSum 101 = .ok (.aload_n 0, 1) := by decide +kernel
theorem dX8_stepSum_102 : decode cX8_stepSum 102 = .ok (.getfield 162, 3) := by decide +kernel
theorem dX8_stepSum_105 : decode cX8_stepSum 105 = .ok (.iastore, 1) := by decide +kernel
theorem dX8_stepSum_106 : decode cX8_stepSum 106 = .ok (.aload_n 0, 1) := by decide +kernel
theorem dX8_stepSum_107 : decode cX8_stepSum 107 = .ok (.invokevirtual 139, 3) := by decide +kernel
theorem dX8_stepSum_110 : decode cX8_stepSum 110 = .ok (.istore_n 3, 1) := by decide +kernel
theorem dX8_stepSum_111 : decode cX8_stepSum 111 = .ok (.iload_n 2, 1) := by decide +kernel
theorem dX8_stepSum_112 : decode cX8_stepSum 112 = .ok (.bipush 6, 2) := by decide +kernel
theorem dX8_stepSum_114 : decode cX8_stepSum 114 = .ok (.if_icmp .ne 23, 3) := by decide +kernel
theorem dX8_stepSum_117 : decode cX8_stepSum 117 = .ok (.iload_n 3, 1) := by decide +kernel
theorem dX8_stepSum_118 : decode cX8_stepSum 118 = .ok (.bipush 43, 2) := by decide +kernel
theorem dX8_stepSum_120 : decode cX8_stepSum 120 = .ok (.if_icmp .eq 9, 3) := by decide +kernel
theorem dX8_stepSum_123 : decode cX8_stepSum 123 = .ok (.iload_n 3, 1) := by decide +kernel
theorem dX8_stepSum_124 : decode cX8_stepSum 124 = .ok (.bipush 45, 2) := by decide +kernel
theorem dX8_stepSum_126 : decode cX8_stepSum 126 = .ok (.if_icmp .ne 7, 3) := by decide +kernel
theorem dX8_stepSum_129 : decode cX8_stepSum 129 = .ok (.iconst 1, 1) := by decide +kernel
theorem dX8_stepSum_130 : decode cX8_stepSum 130 = .ok (.goto 30, 3) := by decide +kernel
theorem dX8_stepSum_133 : decode cX8_stepSum 133 = .ok (.iconst 0, 1) := by decide +kernel
theorem dX8_stepSum_134 : decode cX8_stepSum 134 = .ok (.goto 26, 3) := by decide +kernel
theorem dX8_stepSum_137 : decode cX8_stepSum 137 = .ok (.iload_n 3, 1) := by decide +kernel
theorem dX8_stepSum_138 : decode cX8_stepSum 138 = .ok (.bipush 42, 2) := by decide +kernel
theorem dX8_stepSum_140 : decode cX8_stepSum 140 = .ok (.if_icmp .eq 15, 3) := by decide +kernel
theorem dX8_stepSum_143 : decode cX8_stepSum 143 = .ok (.iload_n 3, 1) := by decide +kernel
theorem dX8_stepSum_144 : decode cX8_stepSum 144 = .ok (.bipush 47, 2) := by decide +kernel
theorem dX8_stepSum_146 : decode cX8_stepSum 146 = .ok (.if_icmp .eq 9, 3) := by decide +kernel
theorem dX8_stepSum_149 : decode cX8_stepSum 149 = .ok (.iload_n 3, 1) := by decide +kernel
theorem dX8_stepSum_150 : decode cX8_stepSum 150 = .ok (.bipush 37, 2) := by decide +kernel
theorem dX8_stepSum_152 : decode cX8_stepSum 152 = .ok (.if_icmp .ne 7, 3) := by decide +kernel
theorem dX8_stepSum_155 : decode cX8_stepSum 155 = .ok (.iconst 1, 1) := by decide +kernel
theorem dX8_stepSum_156 : decode cX8_stepSum 156 = .ok (.goto 4, 3) := by decide +kernel
theorem dX8_stepSum_159 : decode cX8_stepSum 159 = .ok (.iconst 0, 1) := by decide +kernel
theorem dX8_stepSum_160 : decode cX8_stepSum 160 = .ok (.istore 4, 2) := by decide +kernel
theorem dX8_stepSum_162 : decode cX8_stepSum 162 = .ok (.iload 4, 2) := by decide +kernel
theorem dX8_stepSum_164 : decode cX8_stepSum 164 = .ok (.ifCond .ne 14, 3) := by decide +kernel
theorem dX8_stepSum_167 : decode cX8_stepSum 167 = .ok (.aload_n 0, 1) := by decide +kernel
theorem dX8_stepSum_168 : decode cX8_stepSum 168 = .ok (.aload_n 0, 1) := by decide +kernel
theorem dX8_stepSum_169 : decode cX8_stepSum 169 = .ok (.getfield 43, 3) := by decide +kernel
theorem dX8_stepSum_172 : decode cX8_stepSum 172 = .ok (.iload_n 1, 1) := by decide +kernel
theorem dX8_stepSum_173 : decode cX8_stepSum 173 = .ok (.iaload, 1) := by decide +kernel
theorem dX8_stepSum_174 : decode cX8_stepSum 174 = .ok (.invokevirtual 209, 3) := by decide +kernel
theorem dX8_stepSum_177 : decode cX8_stepSum 177 = .ok (.return_, 1) := by decide +kernel
theorem dX8_stepSum_178 : decode cX8_stepSum 178 = .ok (.aload_n 0, 1) := by decide +kernel
theorem dX8_stepSum_179 : decode cX8_stepSum 179 = .ok (.getfield 46, 3) := by decide +kernel
theorem dX8_stepSum_182 : decode cX8_stepSum 182 = .ok (.iload_n 1, 1) := by decide +kernel
theorem dX8_stepSum_183 : decode cX8_stepSum 183 = .ok (.aload_n 0, 1) := by decide +kernel
theorem dX8_stepSum_184 : decode cX8_stepSum 184 = .ok (.getfield 132, 3) := by decide +kernel
theorem dX8_stepSum_187 : decode cX8_stepSum 187 = .ok (.iastore, 1) := by decide +kernel
theorem dX8_stepSum_188 : decode cX8_stepSum 188 = .ok (.aload_n 0, 1) := by decide +kernel
theorem dX8_stepSum_189 : decode cX8_stepSum 189 = .ok (.dup, 1) := by decide +kernel
theorem dX8_stepSum_190 : decode cX8_stepSum 190 = .ok (.getfield 132, 3) := by decide +kernel
theorem dX8_stepSum_193 : decode cX8_stepSum 193 = .ok (.iconst 1, 1) := by decide +kernel
theorem dX8_stepSum_194 : decode cX8_stepSum 194 = .ok (.iadd, 1) := by decide +kernel
theorem dX8_stepSum_195 : decode cX8_stepSum 195 = .ok (.putfield 132, 3) := by decide +kernel
theorem dX8_stepSum_198 : decode cX8_stepSum 198 = .ok (.aload_n 0, 1) := by decide +kernel
theorem dX8_stepSum_199 : decode cX8_stepSum 199 = .ok (.iload_n 2, 1) := by decide +kernel
theorem dX8_stepSum_200 : decode cX8_stepSum 200 = .ok (.invokevirtual 171, 3) := by decide +kernel
theorem dX8_stepSum_203 : decode cX8_stepSum 203 = .ok (.return_, 1) := by decide +kernel
theorem dX8_stepFactor_0 : decode cX8_stepFactor 0 = .ok (.aload_n 0, 1) := by decide +kernel
theorem dX8_stepFactor_1 : decode cX8_stepFactor 1 = .ok (.getfield 40, 3) := by decide +kernel
theorem dX8_stepFactor_4 : decode cX8_stepFactor 4 = .ok (.iload_n 1, 1) := by decide +kernel
theorem dX8_stepFactor_5 : decode cX8_stepFactor 5 = .ok (.iaload, 1) := by decide +kernel
theorem dX8_stepFactor_6 : decode cX8_stepFactor 6 = .ok (.iconst 1, 1) := by decide +kernel
theorem dX8_stepFactor_7 : decode cX8_stepFactor 7 = .ok (.if_icmp .ne 18, 3) := by decide +kernel
theorem dX8_stepFactor_10 : decode cX8_stepFactor 10 = .ok (.aload_n 0, 1) := by decide +kernel
theorem dX8_stepFactor_11 : decode cX8_stepFactor 11 = .ok (.bipush 41, 2) := by decide +kernel
theorem dX8_stepFactor_13 : decode cX8_stepFactor 13 = .ok (.invokevirtual 224, 3) := by decide +kernel
theorem dX8_stepFactor_16 : decode cX8_stepFactor 16 = .ok (.aload_n 0, 1) := by decide +kernel
theorem dX8_stepFactor_17 : decode cX8_stepFactor 17 = .ok (.aload_n 0, 1) := by decide +kernel
theorem dX8_stepFactor_18 : decode cX8_stepFactor 18 = .ok (.getfield 162, 3) := by decide +kernel
theorem dX8_stepFactor_21 : decode cX8_stepFactor 21 = .ok (.invokevirtual 209, 3) := by decide +kernel
theorem dX8_stepFactor_24 : decode cX8_stepFactor 24 = .ok (.return_, 1) := by decide +kernel
theorem dX8_stepFactor_25 : decode cX8_stepFactor 25 = .ok (.aload_n 0, 1) := by decide +kernel
theorem dX8_stepFactor_26 : decode cX8_stepFactor 26 = .ok (.invokevirtual 139, 3) := by decide +kernel
theorem dX8_stepFactor_29 : decode cX8_stepFactor 29 = .ok (.istore_n 2, 1) := by decide +kernel
theorem dX8_stepFactor_30 : decode cX8_stepFactor 30 = .ok (.iload_n 2, 1) := by decide +kernel
theorem dX8_stepFactor_31 : decode cX8_stepFactor 31 = .ok (.bipush 40, 2) := by decide +kernel
theorem dX8_stepFactor_33 : decode cX8_stepFactor 33 = .ok (.if_icmp .ne 24, 3) := by decide +kernel
theorem dX8_stepFactor_36 : decode cX8_stepFactor 36 = .ok (.aload_n 0, 1) := by decide +kernel
theorem dX8_stepFactor_37 : decode cX8_stepFactor 37 = .ok (.bipush 40, 2) := by decide +kernel
theorem dX8_stepFactor_39 : decode cX8_stepFactor 39 = .ok (.invokevirtual 218, 3) := by decide +kernel
theorem dX8_stepFactor_42 : decode cX8_stepFactor 42 = .ok (.aload_n 0, 1) := by decide +kernel
theorem dX8_stepFactor_43 : decode cX8_stepFactor 43 = .ok (.getfield 40, 3) := by decide +kernel
theorem dX8_stepFactor_46 : decode cX8_stepFactor 46 = .ok (.iload_n 1, 1) := by decide +kernel
theorem dX8_stepFactor_47 : decode cX8_stepFactor 47 = .ok (.iconst 1, 1) := by decide +kernel
theorem dX8_stepFactor_48 : decode cX8_stepFactor 48 = .ok (.iastore, 1) := by decide +kernel
theorem dX8_stepFactor_49 : decode cX8_stepFactor 49 = .ok (.aload_n 0, 1) := by decide +kernel
theorem dX8_stepFactor_50 : decode cX8_stepFactor 50 = .ok (.iconst 5, 1) := by decide +kernel
theorem dX8_stepFactor_51 : decode cX8_stepFactor 51 = .ok (.invokevirtual 171, 3) := by decide +kernel
theorem dX8_stepFactor_54 : decode cX8_stepFactor 54 = .ok (.goto 106, 3) := by decide +kernel
theorem dX8_stepFactor_57 : decode cX8_stepFactor 57 = .ok (.iload_n 2, 1) := by decide +kernel
theorem dX8_stepFactor_58 : decode cX8_stepFactor 58 = .ok (.bipush 120, 2) := by decide +kernel
theorem dX8_stepFactor_60 : decode cX8_stepFactor 60 = .ok (.if_icmp .eq 9, 3) := by decide +kernel
theorem dX8_stepFactor_63 : decode cX8_stepFactor 63 = .ok (.iload_n 2, 1) := by decide +kernel
theorem dX8_stepFactor_64 : decode cX8_stepFactor 64 = .ok (.bipush 121, 2) := by decide +kernel
theorem dX8_stepFactor_66 : decode cX8_stepFactor 66 = .ok (.if_icmp .ne 37, 3) := by decide +kernel
theorem dX8_stepFactor_69 : decode cX8_stepFactor 69 = .ok (.aload_n 0, 1) := by decide +kernel
theorem dX8_stepFactor_70 : decode cX8_stepFactor 70 = .ok (.dup, 1) := by decide +kernel
theorem dX8_stepFactor_71 : decode cX8_stepFactor 71 = .ok (.getfield 132, 3) := by decide +kernel
theorem dX8_stepFactor_74 : decode cX8_stepFactor 74 = .ok (.iconst 1, 1) := by decide +kernel
theorem dX8_stepFactor_75 : decode cX8_stepFactor 75 = .ok (.iadd, 1) := by decide +kernel
theorem dX8_stepFactor_76 : decode cX8_stepFactor 76 = .ok (.putfield 132, 3) := by decide +kernel
theorem dX8_stepFactor_79 : decode cX8_stepFactor 79 = .ok (.aload_n 0, 1) := by decide +kernel
theorem dX8_stepFactor_80 : decode cX8_stepFactor 80 = .ok (.iconst 3, 1) := by decide +kernel
theorem dX8_stepFactor_81 : decode cX8_stepFactor 81 = .ok (.iload_n 2, 1) := by decide +kernel
theorem dX8_stepFactor_82 : decode cX8_stepFactor 82 = .ok (.iconst (-1), 1) := by decide +kernel
theorem dX8_stepFactor_83 : decode cX8_stepFactor 83 = .ok (.invokevirtual 178, 3) := by decide +kernel
theorem dX8_stepFactor_86 : decode cX8_stepFactor 86 = .ok (.pop, 1) := by decide +kernel
theorem dX8_stepFactor_87 : decode cX8_stepFactor 87 = .ok (.aload_n 0, 1) := by decide +kernel
theorem dX8_stepFactor_88 : decode cX8_stepFactor 88 = .ok (.aload_n 0, 1) := by decide +kernel
theorem dX8_stepFactor_89 : decode cX8_stepFactor 89 = .ok (.iconst 1, 1) := by decide +kernel
theorem dX8_stepFactor_90 : decode cX8_stepFactor 90 = .ok (.iload_n 2, 1) := by decide +kernel
theorem dX8_stepFactor_91 : decode cX8_stepFactor 91 = .ok (.iconst 0, 1) := by decide +kernel
theorem dX8_stepFactor_92 : decode cX8_stepFactor 92 = .ok (.iconst 0, 1) := by decide +kernel
theorem dX8_stepFactor_93 : decode cX8_stepFactor 93 = .ok (.iconst (-1), 1) := by decide +kernel
theorem dX8_stepFactor_94 : decode cX8_stepFactor 94 = .ok (.invokevirtual 205, 3) := by decide +kernel
theorem dX8_stepFactor_97 : decode cX8_stepFactor 97 = .ok (.invokevirtual 209, 3) := by decide +kernel
theorem dX8_stepFactor_100 : decode cX8_stepFactor 100 = .ok (.goto 60, 3) := by decide +kernel
theorem dX8_stepFactor_103 : decode cX8_stepFactor 103 = .ok (.iload_n 2, 1) := by decide +kernel
theorem dX8_stepFactor_104 : decode cX8_stepFactor 104 = .ok (.bipush 97, 2) := by decide +kernel
theorem dX8_stepFactor_106 : decode cX8_stepFactor 106 = .ok (.if_icmp .lt 49, 3) := by decide +kernel
theorem dX8_stepFactor_109 : decode cX8_stepFactor 109 = .ok (.iload_n 2, 1) := by decide +kernel
theorem dX8_stepFactor_110 : decode cX8_stepFactor 110 = .ok (.bipush 102, 2) := by decide +kernel
theorem dX8_stepFactor_112 : decode cX8_stepFactor 112 = .ok (.if_icmp .gt 43, 3) := by decide +kernel
theorem dX8_stepFactor_115 : decode cX8_stepFactor 115 = .ok (.aload_n 0, 1) := by decide +kernel
theorem dX8_stepFactor_116 : decode cX8_stepFactor 116 = .ok (.dup, 1) := by decide +kernel
theorem dX8_stepFactor_117 : decode cX8_stepFactor 117 = .ok (.getfield 132, 3) := by decide +kernel
theorem dX8_stepFactor_120 : decode cX8_stepFactor 120 = .ok (.iconst 1, 1) := by decide +kernel
theorem dX8_stepFactor_121 : decode cX8_stepFactor 121 = .ok (.iadd, 1) := by decide +kernel
theorem dX8_stepFactor_122 : decode cX8_stepFactor 122 = .ok (.putfield 132, 3) := by decide +kernel
theorem dX8_stepFactor_125 : decode cX8_stepFactor 125 = .ok (.aload_n 0, 1) := by decide +kernel
theorem dX8_stepFactor_126 : decode cX8_stepFactor 126 = .ok (.iconst 4, 1) := by decide +kernel
theorem dX8_stepFactor_127 : decode cX8_stepFactor 127 = .ok (.iload_n 2, 1) := by decide +kernel
theorem dX8_stepFactor_128 : decode cX8_stepFactor 128 = .ok (.bipush 97, 2) := by decide +kernel
theorem dX8_stepFactor_130 : decode cX8_stepFactor 130 = .ok (.isub, 1) := by decide +kernel
theorem dX8_stepFactor_131 : decode cX8_stepFactor 131 = .ok (.iconst (-1), 1) := by decide +kernel
theorem dX8_stepFactor_132 : decode cX8_stepFactor 132 = .ok (.invokevirtual 178, 3) := by decide +kernel
theorem dX8_stepFactor_135 : decode cX8_stepFactor 135 = .ok (.pop, 1) := by decide +kernel
theorem dX8_stepFactor_136 : decode cX8_stepFactor 136 = .ok (.aload_n 0, 1) := by decide +kernel
theorem dX8_stepFactor_137 : decode cX8_stepFactor 137 = .ok (.aload_n 0, 1) := by decide +kernel
theorem dX8_stepFactor_138 : decode cX8_stepFactor 138 = .ok (.iconst 2, 1) := by decide +kernel
theorem dX8_stepFactor_139 : decode cX8_stepFactor 139 = .ok (.iload_n 2, 1) := by decide +kernel
theorem dX8_stepFactor_140 : decode cX8_stepFactor 140 = .ok (.bipush 97, 2) := by decide +kernel
theorem dX8_stepFactor_142 : decode cX8_stepFactor 142 = .ok (.isub, 1) := by decide +kernel
theorem dX8_stepFactor_143 : decode cX8_stepFactor 143 = .ok (.iconst 0, 1) := by decide +kernel
theorem dX8_stepFactor_144 : decode cX8_stepFactor 144 = .ok (.iconst 0, 1) := by decide +kernel
theorem dX8_stepFactor_145 : decode cX8_stepFactor 145 = .ok (.iconst (-1), 1) := by decide +kernel
theorem dX8_stepFactor_146 : decode cX8_stepFactor 146 = .ok (.invokevirtual 205, 3) := by decide +kernel
theorem dX8_stepFactor_149 : decode cX8_stepFactor 149 = .ok (.invokevirtual 209, 3) := by decide +kernel
theorem dX8_stepFactor_152 : decode cX8_stepFactor 152 = .ok (.goto 8, 3) := by decide +kernel
theorem dX8_stepFactor_155 : decode cX8_stepFactor 155 = .ok (.aload_n 0, 1) := by decide +kernel
theorem dX8_stepFactor_156 : decode cX8_stepFactor 156 = .ok (.iload_n 2, 1) := by decide +kernel
theorem dX8_stepFactor_157 : decode cX8_stepFactor 157 = .ok (.invokevirtual 230, 3) := by decide +kernel
theorem dX8_stepFactor_160 : decode cX8_stepFactor 160 = .ok (.return_, 1) := by decide +kernel
theorem dX8_constant_0 : decode cX8_constant 0 = .ok (.aload_n 0, 1) := by decide +kernel
theorem dX8_constant_1 : decode cX8_constant 1 = .ok (.getfield 132, 3) := by decide +kernel
theorem dX8_constant_4 : decode cX8_constant 4 = .ok (.istore_n 2, 1) := by decide +kernel
theorem dX8_constant_5 : decode cX8_constant 5 = .ok (.aload_n 0, 1) := by decide +kernel
theorem dX8_constant_6 : decode cX8_constant 6 = .ok (.aload_n 0, 1) := by decide +kernel
theorem dX8_constant_7 : decode cX8_constant 7 = .ok (.getfield 135, 3) := by decide +kernel
theorem dX8_constant_10 : decode cX8_constant 10 = .ok (.ifCond .ne 15, 3) := by decide +kernel
theorem dX8_constant_13 : decode cX8_constant 13 = .ok (.iload_n 1, 1) := by decide +kernel
theorem dX8_constant_14 : decode cX8_constant 14 = .ok (.bipush 48, 2) := by decide +kernel
theorem dX8_constant_16 : decode cX8_constant 16 = .ok (.if_icmp .lt 9, 3) := by decide +kernel
theorem dX8_constant_19 : decode cX8_constant 19 = .ok (.iload_n 1, 1) := by decide +kernel
theorem dX8_constant_20 : decode cX8_constant 20 = .ok (.bipush 57, 2) := by decide +kernel
theorem dX8_constant_22 : decode cX8_constant 22 = .ok (.if_icmp .le 7, 3) := by decide +kernel
theorem dX8_constant_25 : decode cX8_constant 25 = .ok (.iconst 1, 1) := by decide +kernel
theorem dX8_constant_26 : decode cX8_constant 26 = .ok (.goto 4, 3) := by decide +kernel
theorem dX8_constant_29 : decode cX8_constant 29 = .ok (.iconst 0, 1) := by decide +kernel
theorem dX8_constant_30 : decode cX8_constant 30 = .ok (.putfield 135, 3) := by decide +kernel
theorem dX8_constant_33 : decode cX8_constant 33 = .ok (.iload_n 1, 1) := by decide +kernel
theorem dX8_constant_34 : decode cX8_constant 34 = .ok (.bipush 48, 2) := by decide +kernel
theorem dX8_constant_36 : decode cX8_constant 36 = .ok (.isub, 1) := by decide +kernel
theorem dX8_constant_37 : decode cX8_constant 37 = .ok (.istore_n 3, 1) := by decide +kernel
theorem dX8_constant_38 : decode cX8_constant 38 = .ok (.aload_n 0, 1) := by decide +kernel
theorem dX8_constant_39 : decode cX8_constant 39 = .ok (.dup, 1) := by decide +kernel
theorem dX8_constant_40 : decode cX8_constant 40 = .ok (.getfield 132, 3) := by decide +kernel
theorem dX8_constant_43 : decode cX8_constant 43 = .ok (.iconst 1, 1) := by decide +kernel
theorem dX8_constant_44 : decode cX8_constant 44 = .ok (.iadd, 1) := by decide +kernel
theorem dX8_constant_45 : decode cX8_constant 45 = .ok (.putfield 132, 3) := by decide +kernel
theorem dX8_constant_48 : decode cX8_constant 48 = .ok (.aload_n 0, 1) := by decide +kernel
theorem dX8_constant_49 : decode cX8_constant 49 = .ok (.invokevirtual 139, 3) := by decide +kernel
theorem dX8_constant_52 : decode cX8_constant 52 = .ok (.istore 4, 2) := by decide +kernel
theorem dX8_constant_54 : decode cX8_constant 54 = .ok (.iload_n 3, 1) := by decide +kernel
theorem dX8_constant_55 : decode cX8_constant 55 = .ok (.ifCond .le 38, 3) := by decide +kernel
theorem dX8_constant_58 : decode cX8_constant 58 = .ok (.iload 4, 2) := by decide +kernel
theorem dX8_constant_60 : decode cX8_constant 60 = .ok (.bipush 48, 2) := by decide +kernel
theorem dX8_constant_62 : decode cX8_constant 62 = .ok (.if_icmp .lt 31, 3) := by decide +kernel
theorem dX8_constant_65 : decode cX8_constant 65 = .ok (.iload 4, 2) := by decide +kernel
theorem dX8_constant_67 : decode cX8_constant 67 = .ok (.bipush 57, 2) := by decide +kernel
theorem dX8_constant_69 : decode cX8_constant 69 = .ok (.if_icmp .gt 24, 3) := by decide +kernel
theorem dX8_constant_72 : decode cX8_constant 72 = .ok (.bipush 10, 2) := by decide +kernel
theorem dX8_constant_74 : decode cX8_constant 74 = .ok (.iload_n 3, 1) := by decide +kernel
theorem dX8_constant_75 : decode cX8_constant 75 = .ok (.imul, 1) := by decide +kernel
theorem dX8_constant_76 : decode cX8_constant 76 = .ok (.iload 4, 2) := by decide +kernel
theorem dX8_constant_78 : decode cX8_constant 78 = .ok (.iadd, 1) := by decide +kernel
theorem dX8_constant_79 : decode cX8_constant 79 = .ok (.bipush 48, 2) := by decide +kernel
theorem dX8_constant_81 : decode cX8_constant 81 = .ok (.isub, 1) := by decide +kernel
theorem dX8_constant_82 : decode cX8_constant 82 = .ok (.istore_n 3, 1) := by decide +kernel
theorem dX8_constant_83 : decode cX8_constant 83 = .ok (.aload_n 0, 1) := by decide +kernel
theorem dX8_constant_84 : decode cX8_constant 84 = .ok (.dup, 1) := by decide +kernel
theorem dX8_constant_85 : decode cX8_constant 85 = .ok (.getfield 132, 3) := by decide +kernel
theorem dX8_constant_88 : decode cX8_constant 88 = .ok (.iconst 1, 1) := by decide +kernel
theorem dX8_constant_89 : decode cX8_constant 89 = .ok (.iadd, 1) := by decide +kernel
theorem dX8_constant_90 : decode cX8_constant 90 = .ok (.putfield 132, 3) := by decide +kernel
theorem dX8_constant_93 : decode cX8_constant 93 = .ok (.aload_n 0, 1) := by decide +kernel
theorem dX8_constant_94 : decode cX8_constant 94 = .ok (.iconst 2, 1) := by decide +kernel
theorem dX8_constant_95 : decode cX8_constant 95 = .ok (.iload_n 3, 1) := by decide +kernel
theorem dX8_constant_96 : decode cX8_constant 96 = .ok (.iload_n 2, 1) := by decide +kernel
theorem dX8_constant_97 : decode cX8_constant 97 = .ok (.invokevirtual 178, 3) := by decide +kernel
theorem dX8_constant_100 : decode cX8_constant 100 = .ok (.pop, 1) := by decide +kernel
theorem dX8_constant_101 : decode cX8_constant 101 = .ok (.aload_n 0, 1) := by decide +kernel
theorem dX8_constant_102 : decode cX8_constant 102 = .ok (.aload_n 0, 1) := by decide +kernel
theorem dX8_constant_103 : decode cX8_constant 103 = .ok (.iconst 0, 1) := by decide +kernel
theorem dX8_constant_104 : decode cX8_constant 104 = .ok (.iload_n 3, 1) := by decide +kernel
theorem dX8_constant_105 : decode cX8_constant 105 = .ok (.iconst 0, 1) := by decide +kernel
theorem dX8_constant_106 : decode cX8_constant 106 = .ok (.iconst 0, 1) := by decide +kernel
theorem dX8_constant_107 : decode cX8_constant 107 = .ok (.iload_n 2, 1) := by decide +kernel
theorem dX8_constant_108 : decode cX8_constant 108 = .ok (.invokevirtual 205, 3) := by decide +kernel
theorem dX8_constant_111 : decode cX8_constant 111 = .ok (.invokevirtual 209, 3) := by decide +kernel
theorem dX8_constant_114 : decode cX8_constant 114 = .ok (.return_, 1) := by decide +kernel
theorem dX8_nodeAt_0 : decode cX8_nodeAt 0 = .ok (.iconst (-1), 1) := by decide +kernel
theorem dX8_nodeAt_1 : decode cX8_nodeAt 1 = .ok (.istore_n 2, 1) := by decide +kernel
theorem dX8_nodeAt_2 : decode cX8_nodeAt 2 = .ok (.aload_n 0, 1) := by decide +kernel
theorem dX8_nodeAt_3 : decode cX8_nodeAt 3 = .ok (.getfield 150, 3) := by decide +kernel
theorem dX8_nodeAt_6 : decode cX8_nodeAt 6 = .ok (.istore_n 3, 1) := by decide +kernel
theorem dX8_nodeAt_7 : decode cX8_nodeAt 7 = .ok (.iload_n 3, 1) := by decide +kernel
theorem dX8_nodeAt_8 : decode cX8_nodeAt 8 = .ok (.aload_n 0, 1) := by decide +kernel
theorem dX8_nodeAt_9 : decode cX8_nodeAt 9 = .ok (.getfield 150, 3) := by decide +kernel
theorem dX8_nodeAt_12 : decode cX8_nodeAt 12 = .ok (.aload_n 0, 1) := by decide +kernel
theorem dX8_nodeAt_13 : decode cX8_nodeAt 13 = .ok (.getfield 156, 3) := by decide +kernel
theorem dX8_nodeAt_16 : decode cX8_nodeAt 16 = .ok (.iadd, 1) := by decide +kernel
theorem dX8_nodeAt_17 : decode cX8_nodeAt 17 = .ok (.if_icmp .ge 21, 3) := by decide +kernel
theorem dX8_nodeAt_20 : decode cX8_nodeAt 20 = .ok (.aload_n 0, 1) := by decide +kernel
theorem dX8_nodeAt_21 : decode cX8_nodeAt 21 = .ok (.getfield 34, 3) := by decide +kernel
theorem dX8_nodeAt_24 : decode cX8_nodeAt 24 = .ok (.iload_n 3, 1) := by decide +kernel
theorem dX8_nodeAt_25 : decode cX8_nodeAt 25 = .ok (.iaload, 1) := by decide +kernel
theorem dX8_nodeAt_26 : decode cX8_nodeAt 26 = .ok (.iload_n 1, 1) := by decide +kernel
theorem dX8_nodeAt_27 : decode cX8_nodeAt 27 = .ok (.if_icmp .ne 5, 3) := by decide +kernel
theorem dX8_nodeAt_30 : decode cX8_nodeAt 30 = .ok (.iload_n 3, 1) := by decide +kernel
theorem dX8_nodeAt_31 : decode cX8_nodeAt 31 = .ok (.istore_n 2, 1) := by decide +kernel
theorem dX8_nodeAt_32 : decode cX8_nodeAt 32 = .ok (.iinc 3 1, 3) := by decide +kernel
theorem dX8_nodeAt_35 : decode cX8_nodeAt 35 = .ok (.goto (-28), 3) := by decide +kernel
theorem dX8_nodeAt_38 : decode cX8_nodeAt 38 = .ok (.iload_n 2, 1) := by decide +kernel
theorem dX8_nodeAt_39 : decode cX8_nodeAt 39 = .ok (.ireturn, 1) := by decide +kernel
theorem dX8_kindOf_0 : decode cX8_kindOf 0 = .ok (.iload_n 0, 1) := by decide +kernel
theorem dX8_kindOf_1 : decode cX8_kindOf 1 = .ok (.iconst 3, 1) := by decide +kernel
theorem dX8_kindOf_2 : decode cX8_kindOf 2 = .ok (.if_icmp .ne 7, 3) := by decide +kernel
theorem dX8_kindOf_5 : decode cX8_kindOf 5 = .ok (.iconst 0, 1) := by decide +kernel
theorem dX8_kindOf_6 : decode cX8_kindOf 6 = .ok (.goto 30, 3) := by decide +kernel
theorem dX8_kindOf_9 : decode cX8_kindOf 9 = .ok (.iload_n 0, 1) := by decide +kernel
theorem dX8_kindOf_10 : decode cX8_kindOf 10 = .ok (.iconst 4, 1) := by decide +kernel
theorem dX8_kindOf_11 : decode cX8_kindOf 11 = .ok (.if_icmp .ne 7, 3) := by decide +kernel
theorem dX8_kindOf_14 : decode cX8_kindOf 14 = .ok (.iconst 1, 1) := by decide +kernel
theorem dX8_kindOf_15 : decode cX8_kindOf 15 = .ok (.goto 21, 3) := by decide +kernel
theorem dX8_kindOf_18 : decode cX8_kindOf 18 = .ok (.iload_n 0, 1) := by decide +kernel
theorem dX8_kindOf_19 : decode cX8_kindOf 19 = .ok (.iconst 5, 1) := by decide +kernel
theorem dX8_kindOf_20 : decode cX8_kindOf 20 = .ok (.if_icmp .ne 7, 3) := by decide +kernel
theorem dX8_kindOf_23 : decode cX8_kindOf 23 = .ok (.iconst 2, 1) := by decide +kernel
theorem dX8_kindOf_24 : decode cX8_kindOf 24 = .ok (.goto 12, 3) := by decide +kernel
theorem dX8_kindOf_27 : decode cX8_kindOf 27 = .ok (.iload_n 0, 1) := by decide +kernel
theorem dX8_kindOf_28 : decode cX8_kindOf 28 = .ok (.ifCond .ne 7, 3) := by decide +kernel
theorem dX8_kindOf_31 : decode cX8_kindOf 31 = .ok (.iconst 3, 1) := by decide +kernel
theorem dX8_kindOf_32 : decode cX8_kindOf 32 = .ok (.goto 4, 3) := by decide +kernel
theorem dX8_kindOf_35 : decode cX8_kindOf 35 = .ok (.iconst 4, 1) := by decide +kernel
theorem dX8_kindOf_36 : decode cX8_kindOf 36 = .ok (.ireturn, 1) := by decide +kernel
theorem dX8_signOf_0 : decode cX8_signOf 0 = .ok (.iload_n 0, 1) := by decide +kernel
theorem dX8_signOf_1 : decode cX8_signOf 1 = .ok (.ifCond .ne 45, 3) := by decide +kernel
theorem dX8_signOf_4 : decode cX8_signOf 4 = .ok (.iload_n 1, 1) := by decide +kernel
theorem dX8_signOf_5 : decode cX8_signOf 5 = .ok (.ifCond .ne 8, 3) := by decide +kernel
theorem dX8_signOf_8 : decode cX8_signOf 8 = .ok (.bipush 43, 2) := by decide +kernel
theorem dX8_signOf_10 : decode cX8_signOf 10 = .ok (.goto 35, 3) := by decide +kernel
theorem dX8_signOf_13 : decode cX8_signOf 13 = .ok (.iload_n 1, 1) := by decide +kernel
theorem dX8_signOf_14 : decode cX8_signOf 14 = .ok (.iconst 1, 1) := by decide +kernel
theorem dX8_signOf_15 : decode cX8_signOf 15 = .ok (.if_icmp .ne 8, 3) := by decide +kernel
theorem dX8_signOf_18 : decode cX8_signOf 18 = .ok (.bipush 45, 2) := by decide +kernel
theorem dX8_signOf_20 : decode cX8_signOf 20 = .ok (.goto 25, 3) := by decide +kernel
theorem dX8_signOf_23 : decode cX8_signOf 23 = .ok (.iload_n 1, 1) := by decide +kernel
theorem dX8_signOf_24 : decode cX8_signOf 24 = .ok (.iconst 2, 1) := by decide +kernel
theorem dX8_signOf_25 : decode cX8_signOf 25 = .ok (.if_icmp .ne 8, 3) := by decide +kernel
theorem dX8_signOf_28 : decode cX8_signOf 28 = .ok (.bipush 42, 2) := by decide +kernel
theorem dX8_signOf_30 : decode cX8_signOf 30 = .ok (.goto 15, 3) := by decide +kernel
theorem dX8_signOf_33 : decode cX8_signOf 33 = .ok (.iload_n 1, 1) := by decide +kernel
theorem dX8_signOf_34 : decode cX8_signOf 34 = .ok (.iconst 3, 1) := by decide +kernel
theorem dX8_signOf_35 : decode cX8_signOf 35 = .ok (.if_icmp .ne 8, 3) := by decide +kernel
theorem dX8_signOf_38 : decode cX8_signOf 38 = .ok (.bipush 47, 2) := by decide +kernel
theorem dX8_signOf_40 : decode cX8_signOf 40 = .ok (.goto 5, 3) := by decide +kernel
theorem dX8_signOf_43 : decode cX8_signOf 43 = .ok (.bipush 37, 2) := by decide +kernel
theorem dX8_signOf_45 : decode cX8_signOf 45 = .ok (.ireturn, 1) := by decide +kernel
theorem dX8_signOf_46 : decode cX8_signOf 46 = .ok (.iload_n 0, 1) := by decide +kernel
theorem dX8_signOf_47 : decode cX8_signOf 47 = .ok (.iconst 1, 1) := by decide +kernel
theorem dX8_signOf_48 : decode cX8_signOf 48 = .ok (.if_icmp .ne 35, 3) := by decide +kernel
theorem dX8_signOf_51 : decode cX8_signOf 51 = .ok (.iload_n 1, 1) := by decide +kernel
theorem dX8_signOf_52 : decode cX8_signOf 52 = .ok (.ifCond .ne 8, 3) := by decide +kernel
theorem dX8_signOf_55 : decode cX8_signOf 55 = .ok (.bipush 60, 2) := by decide +kernel
theorem dX8_signOf_57 : decode cX8_signOf 57 = .ok (.goto 25, 3) := by decide +kernel
theorem dX8_signOf_60 : decode cX8_signOf 60 = .ok (.iload_n 1, 1) := by decide +kernel
theorem dX8_signOf_61 : decode cX8_signOf 61 = .ok (.iconst 1, 1) := by decide +kernel
theorem dX8_signOf_62 : decode cX8_signOf 62 = .ok (.if_icmp .ne 8, 3) := by decide +kernel
theorem dX8_signOf_65 : decode cX8_signOf 65 = .ok (.bipush 62, 2) := by decide +kernel
theorem dX8_signOf_67 : decode cX8_signOf 67 = .ok (.goto 15, 3) := by decide +kernel
theorem dX8_signOf_70 : decode cX8_signOf 70 = .ok (.iload_n 1, 1) := by decide +kernel
theorem dX8_signOf_71 : decode cX8_signOf 71 = .ok (.iconst 2, 1) := by decide +kernel
theorem dX8_signOf_72 : decode cX8_signOf 72 = .ok (.if_icmp .ne 8, 3) := by decide +kernel
theorem dX8_signOf_75 : decode cX8_signOf 75 = .ok (.bipush 61, 2) := by decide +kernel
theorem dX8_signOf_77 : decode cX8_signOf 77 = .ok (.goto 5, 3) := by decide +kernel
theorem dX8_signOf_80 : decode cX8_signOf 80 = .ok (.bipush 35, 2) := by decide +kernel
theorem dX8_signOf_82 : decode cX8_signOf 82 = .ok (.ireturn, 1) := by decide +kernel
theorem dX8_signOf_83 : decode cX8_signOf 83 = .ok (.iload_n 1, 1) := by decide +kernel
theorem dX8_signOf_84 : decode cX8_signOf 84 = .ok (.ifCond .ne 8, 3) := by decide +kernel
theorem dX8_signOf_87 : decode cX8_signOf 87 = .ok (.bipush 38, 2) := by decide +kernel
theorem dX8_signOf_89 : decode cX8_signOf 89 = .ok (.goto 5, 3) := by decide +kernel
theorem dX8_signOf_92 : decode cX8_signOf 92 = .ok (.bipush 124, 2) := by decide +kernel
theorem dX8_signOf_94 : decode cX8_signOf 94 = .ok (.ireturn, 1) := by decide +kernel
theorem dX8_waysOf_0 : decode cX8_waysOf 0 = .ok (.iload_n 0, 1) := by decide +kernel
theorem dX8_waysOf_1 : decode cX8_waysOf 1 = .ok (.ifCond .ne 7, 3) := by decide +kernel
theorem dX8_waysOf_4 : decode cX8_waysOf 4 = .ok (.iconst 5, 1) := by decide +kernel
theorem dX8_waysOf_5 : decode cX8_waysOf 5 = .ok (.goto 22, 3) := by decide +kernel
theorem dX8_waysOf_8 : decode cX8_waysOf 8 = .ok (.iload_n 0, 1) := by decide +kernel
theorem dX8_waysOf_9 : decode cX8_waysOf 9 = .ok (.iconst 1, 1) := by decide +kernel
theorem dX8_waysOf_10 : decode cX8_waysOf 10 = .ok (.if_icmp .ne 7, 3) := by decide +kernel
theorem dX8_waysOf_13 : decode cX8_waysOf 13 = .ok (.iconst 4, 1) := by decide +kernel
theorem dX8_waysOf_14 : decode cX8_waysOf 14 = .ok (.goto 13, 3) := by decide +kernel
theorem dX8_waysOf_17 : decode cX8_waysOf 17 = .ok (.iload_n 0, 1) := by decide +kernel
theorem dX8_waysOf_18 : decode cX8_waysOf 18 = .ok (.iconst 4, 1) := by decide +kernel
theorem dX8_waysOf_19 : decode cX8_waysOf 19 = .ok (.if_icmp .ne 7, 3) := by decide +kernel
theorem dX8_waysOf_22 : decode cX8_waysOf 22 = .ok (.iconst 1, 1) := by decide +kernel
theorem dX8_waysOf_23 : decode cX8_waysOf 23 = .ok (.goto 4, 3) := by decide +kernel
theorem dX8_waysOf_26 : decode cX8_waysOf 26 = .ok (.iconst 2, 1) := by decide +kernel
theorem dX8_waysOf_27 : decode cX8_waysOf 27 = .ok (.ireturn, 1) := by decide +kernel
theorem dX8_listMutants_0 : decode cX8_listMutants 0 = .ok (.iconst 0, 1) := by decide +kernel
theorem dX8_listMutants_1 : decode cX8_listMutants 1 = .ok (.istore_n 2, 1) := by decide +kernel
theorem dX8_listMutants_2 : decode cX8_listMutants 2 = .ok (.iconst 0, 1) := by decide +kernel
theorem dX8_listMutants_3 : decode cX8_listMutants 3 = .ok (.istore_n 3, 1) := by decide +kernel
theorem dX8_listMutants_4 : decode cX8_listMutants 4 = .ok (.iload_n 3, 1) := by decide +kernel
theorem dX8_listMutants_5 : decode cX8_listMutants 5 = .ok (.aload_n 0, 1) := by decide +kernel
theorem dX8_listMutants_6 : decode cX8_listMutants 6 = .ok (.getfield 129, 3) := by decide +kernel
theorem dX8_listMutants_9 : decode cX8_listMutants 9 = .ok (.if_icmp .ge 143, 3) := by decide +kernel
theorem dX8_listMutants_12 : decode cX8_listMutants 12 = .ok (.aload_n 0, 1) := by decide +kernel
theorem dX8_listMutants_13 : decode cX8_listMutants 13 = .ok (.iload_n 3, 1) := by decide +kernel
theorem dX8_listMutants_14 : decode cX8_listMutants 14 = .ok (.invokevirtual 233, 3) := by decide +kernel
theorem dX8_listMutants_17 : decode cX8_listMutants 17 = .ok (.istore 4, 2) := by decide +kernel
theorem dX8_listMutants_19 : decode cX8_listMutants 19 = .ok (.iload 4, 2) := by decide +kernel
theorem dX8_listMutants_21 : decode cX8_listMutants 21 = .ok (.iconst (-1), 1) := by decide +kernel
theorem dX8_listMutants_22 : decode cX8_listMutants 22 = .ok (.if_icmp .ne 7, 3) := by decide +kernel
theorem dX8_listMutants_25 : decode cX8_listMutants 25 = .ok (.iconst 0, 1) := by decide +kernel
theorem dX8_listMutants_26 : decode cX8_listMutants 26 = .ok (.goto 13, 3) := by decide +kernel
theorem dX8_listMutants_29 : decode cX8_listMutants 29 = .ok (.aload_n 0, 1) := by decide +kernel
theorem dX8_listMutants_30 : decode cX8_listMutants 30 = .ok (.getfield 22, 3) := by decide +kernel
theorem dX8_listMutants_33 : decode cX8_listMutants 33 = .ok (.iload 4, 2) := by decide +kernel
theorem dX8_listMutants_35 : decode cX8_listMutants 35 = .ok (.iaload, 1) := by decide +kernel
theorem dX8_listMutants_36 : decode cX8_listMutants 36 = .ok (.invokestatic 237, 3) := by decide +kernel
theorem dX8_listMutants_39 : decode cX8_listMutants 39 = .ok (.istore 5, 2) := by decide +kernel
theorem dX8_listMutants_41 : decode cX8_listMutants 41 = .ok (.iconst 0, 1) := by decide +kernel
theorem dX8_listMutants_42 : decode cX8_listMutants 42 = .ok (.istore 6, 2) := by decide +kernel
theorem dX8_listMutants_44 : decode cX8_listMutants 44 = .ok (.iload 4, 2) := by decide +kernel
theorem dX8_listMutants_46 : decode cX8_listMutants 46 = .ok (.iconst (-1), 1) := by decide +kernel
theorem dX8_listMutants_47 : decode cX8_listMutants 47 = .ok (.if_icmp .eq 99, 3) := by decide +kernel
theorem dX8_listMutants_50 : decode cX8_listMutants 50 = .ok (.iload 6, 2) := by decide +kernel
theorem dX8_listMutants_52 : decode cX8_listMutants 52 = .ok (.iload 5, 2) := by decide +kernel
theorem dX8_listMutants_54 : decode cX8_listMutants 54 = .ok (.invokestatic 240, 3) := by decide +kernel
theorem dX8_listMutants_57 : decode cX8_listMutants 57 = .ok (.if_icmp .ge 89, 3) := by decide +kernel
theorem dX8_listMutants_60 : decode cX8_listMutants 60 = .ok (.iload 5, 2) := by decide +kernel
theorem dX8_listMutants_62 : decode cX8_listMutants 62 = .ok (.iconst 3, 1) := by decide +kernel
theorem dX8_listMutants_63 : decode cX8_listMutants 63 = .ok (.if_icmp .ge 13, 3) := by decide +kernel
theorem dX8_listMutants_66 : decode cX8_listMutants 66 = .ok (.iload 5, 2) := by decide +kernel
theorem dX8_listMutants_68 : decode cX8_listMutants 68 = .ok (.iload 6, 2) := by decide +kernel
theorem dX8_listMutants_70 : decode cX8_listMutants 70 = .ok (.invokestatic 243, 3) := by decide +kernel
theorem dX8_listMutants_73 : decode cX8_listMutants 73 = .ok (.goto 27, 3) := by decide +kernel
theorem dX8_listMutants_76 : decode cX8_listMutants 76 = .ok (.iload 5, 2) := by decide +kernel
theorem dX8_listMutants_78 : decode cX8_listMutants 78 = .ok (.iconst 3, 1) := by decide +kernel
theorem dX8_listMutants_79 : decode cX8_listMutants 79 = .ok (.if_icmp .ne 20, 3) := by decide +kernel
theorem dX8_listMutants_82 : decode cX8_listMutants 82 = .ok (.aload_n 0, 1) := by decide +kernel
theorem dX8_listMutants_83 : decode cX8_listMutants 83 = .ok (.getfield 25, 3) := by decide +kernel
theorem dX8_listMutants_86 : decode cX8_listMutants 86 = .ok (.iload 4, 2) := by decide +kernel
theorem dX8_listMutants_88 : decode cX8_listMutants 88 = .ok (.iaload, 1) := by decide +kernel
theorem dX8_listMutants_89 : decode cX8_listMutants 89 = .ok (.iconst 1, 1) := by decide +kernel
theorem dX8_listMutants_90 : decode cX8_listMutants 90 = .ok (.iadd, 1) := by decide +kernel
theorem dX8_listMutants_91 : decode cX8_listMutants 91 = .ok (.iconst 2, 1) := by decide +kernel
theorem dX8_listMutants_92 : decode cX8_listMutants 92 = .ok (.iload 6, 2) := by decide +kernel
theorem dX8_listMutants_94 : decode cX8_listMutants 94 = .ok (.imul, 1) := by decide +kernel
theorem dX8_listMutants_95 : decode cX8_listMutants 95 = .ok (.isub, 1) := by decide +kernel
theorem dX8_listMutants_96 : decode cX8_listMutants 96 = .ok (.goto 4, 3) := by decide +kernel
theorem dX8_listMutants_99 : decode cX8_listMutants 99 = .ok (.iconst 0, 1) := by decide +kernel
theorem dX8_listMutants_100 : decode cX8_listMutants 100 = .ok (.istore 7, 2) := by decide +kernel
theorem dX8_listMutants_102 : decode cX8_listMutants 102 = .ok (.iload 5, 2) := by decide +kernel
theorem dX8_listMutants_104 : decode cX8_listMutants 104 = .ok (.iconst 3, 1) := by decide +kernel
theorem dX8_listMutants_105 : decode cX8_listMutants 105 = .ok (.if_icmp .ge 18, 3) := by decide +kernel
theorem dX8_listMutants_108 : decode cX8_listMutants 108 = .ok (.iload 7, 2) := by decide +kernel
theorem dX8_listMutants_110 : decode cX8_listMutants 110 = .ok (.aload_n 0, 1) := by decide +kernel
theorem dX8_listMutants_111 : decode cX8_listMutants 111 = .ok (.getfield 25, 3) := by decide +kernel
theorem dX8_listMutants_114 : decode cX8_listMutants 114 = .ok (.iload 4, 2) := by decide +kernel
theorem dX8_listMutants_116 : decode cX8_listMutants 116 = .ok (.iaload, 1) := by decide +kernel
theorem dX8_listMutants_117 : decode cX8_listMutants 117 = .ok (.if_icmp .ne 6, 3) := by decide +kernel
theorem dX8_listMutants_120 : decode cX8_listMutants 120 = .ok (.goto 20, 3) := by decide +kernel
theorem dX8_listMutants_123 : decode cX8_listMutants 123 = .ok (.iinc 2 1, 3) := by decide +kernel
theorem dX8_listMutants_126 : decode cX8_listMutants 126 = .ok (.iload_n 1, 1) := by decide +kernel
theorem dX8_listMutants_127 : decode cX8_listMutants 127 = .ok (.ifCond .eq 13, 3) := by decide +kernel
theorem dX8_listMutants_130 : decode cX8_listMutants 130 = .ok (.aload_n 0, 1) := by decide +kernel
theorem dX8_listMutants_131 : decode cX8_listMutants 131 = .ok (.iload_n 2, 1) := by decide +kernel
theorem dX8_listMutants_132 : decode cX8_listMutants 132 = .ok (.iload_n 3, 1) := by decide +kernel
theorem dX8_listMutants_133 : decode cX8_listMutants 133 = .ok (.iload 5, 2) := by decide +kernel
theorem dX8_listMutants_135 : decode cX8_listMutants 135 = .ok (.iload 7, 2) := by decide +kernel
theorem dX8_listMutants_137 : decode cX8_listMutants 137 = .ok (.invokevirtual 247, 3) := by decide +kernel
theorem dX8_listMutants_140 : decode cX8_listMutants 140 = .ok (.iinc 6 1, 3) := by decide +kernel
theorem dX8_listMutants_143 : decode cX8_listMutants 143 = .ok (.goto (-99), 3) := by decide +kernel
theorem dX8_listMutants_146 : decode cX8_listMutants 146 = .ok (.iinc 3 1, 3) := by decide +kernel
theorem dX8_listMutants_149 : decode cX8_listMutants 149 = .ok (.goto (-145), 3) := by decide +kernel
theorem dX8_listMutants_152 : decode cX8_listMutants 152 = .ok (.iload_n 2, 1) := by decide +kernel
theorem dX8_listMutants_153 : decode cX8_listMutants 153 = .ok (.ireturn, 1) := by decide +kernel
theorem dX8_note_0 : decode cX8_note 0 = .ok (.aload_n 0, 1) := by decide +kernel
theorem dX8_note_1 : decode cX8_note 1 = .ok (.getfield 61, 3) := by decide +kernel
theorem dX8_note_4 : decode cX8_note 4 = .ok (.iload_n 1, 1) := by decide +kernel
theorem dX8_note_5 : decode cX8_note 5 = .ok (.iload_n 2, 1) := by decide +kernel
theorem dX8_note_6 : decode cX8_note 6 = .ok (.iastore, 1) := by decide +kernel
theorem dX8_note_7 : decode cX8_note 7 = .ok (.aload_n 0, 1) := by decide +kernel
theorem dX8_note_8 : decode cX8_note 8 = .ok (.getfield 64, 3) := by decide +kernel
theorem dX8_note_11 : decode cX8_note 11 = .ok (.iload_n 1, 1) := by decide +kernel
theorem dX8_note_12 : decode cX8_note 12 = .ok (.iload_n 3, 1) := by decide +kernel
theorem dX8_note_13 : decode cX8_note 13 = .ok (.iastore, 1) := by decide +kernel
theorem dX8_note_14 : decode cX8_note 14 = .ok (.aload_n 0, 1) := by decide +kernel
theorem dX8_note_15 : decode cX8_note 15 = .ok (.getfield 67, 3) := by decide +kernel
theorem dX8_note_18 : decode cX8_note 18 = .ok (.iload_n 1, 1) := by decide +kernel
theorem dX8_note_19 : decode cX8_note 19 = .ok (.iload 4, 2) := by decide +kernel
theorem dX8_note_21 : decode cX8_note 21 = .ok (.iastore, 1) := by decide +kernel
theorem dX8_note_22 : decode cX8_note 22 = .ok (.return_, 1) := by decide +kernel
theorem dX8_compile_0 : decode cX8_compile 0 = .ok (.aload_n 0, 1) := by decide +kernel
theorem dX8_compile_1 : decode cX8_compile 1 = .ok (.iconst 0, 1) := by decide +kernel
theorem dX8_compile_2 : decode cX8_compile 2 = .ok (.putfield 126, 3) := by decide +kernel
theorem dX8_compile_5 : decode cX8_compile 5 = .ok (.aload_n 0, 1) := by decide +kernel
theorem dX8_compile_6 : decode cX8_compile 6 = .ok (.invokevirtual 251, 3) := by decide +kernel
theorem dX8_compile_9 : decode cX8_compile 9 = .ok (.ifCond .ne 9, 3) := by decide +kernel
theorem dX8_compile_12 : decode cX8_compile 12 = .ok (.aload_n 0, 1) := by decide +kernel
theorem dX8_compile_13 : decode cX8_compile 13 = .ok (.iconst 1, 1) := by decide +kernel
theorem dX8_compile_14 : decode cX8_compile 14 = .ok (.invokevirtual 255, 3) := by decide +kernel
theorem dX8_compile_17 : decode cX8_compile 17 = .ok (.ireturn, 1) := by decide +kernel
theorem dX8_compile_18 : decode cX8_compile 18 = .ok (.aload_n 0, 1) := by decide +kernel
theorem dX8_compile_19 : decode cX8_compile 19 = .ok (.iconst 0, 1) := by decide +kernel
theorem dX8_compile_20 : decode cX8_compile 20 = .ok (.invokevirtual 258, 3) := by decide +kernel
theorem dX8_compile_23 : decode cX8_compile 23 = .ok (.bipush 120, 2) := by decide +kernel
theorem dX8_compile_25 : decode cX8_compile 25 = .ok (.if_icmp .le 9, 3) := by decide +kernel
theorem dX8_compile_28 : decode cX8_compile 28 = .ok (.aload_n 0, 1) := by decide +kernel
theorem dX8_compile_29 : decode cX8_compile 29 = .ok (.iconst 2, 1) := by decide +kernel
theorem dX8_compile_30 : decode cX8_compile 30 = .ok (.invokevirtual 255, 3) := by decide +kernel
theorem dX8_compile_33 : decode cX8_compile 33 = .ok (.ireturn, 1) := by decide +kernel
theorem dX8_compile_34 : decode cX8_compile 34 = .ok (.aload_n 0, 1) := by decide +kernel
theorem dX8_compile_35 : decode cX8_compile 35 = .ok (.aload_n 0, 1) := by decide +kernel
theorem dX8_compile_36 : decode cX8_compile 36 = .ok (.iconst 1, 1) := by decide +kernel
theorem dX8_compile_37 : decode cX8_compile 37 = .ok (.invokevirtual 258, 3) := by decide +kernel
theorem dX8_compile_40 : decode cX8_compile 40 = .ok (.putfield 262, 3) := by decide +kernel
theorem dX8_compile_43 : decode cX8_compile 43 = .ok (.aload_n 0, 1) := by decide +kernel
theorem dX8_compile_44 : decode cX8_compile 44 = .ok (.aload_n 0, 1) := by decide +kernel
theorem dX8_compile_45 : decode cX8_compile 45 = .ok (.getfield 150, 3) := by decide +kernel
theorem dX8_compile_48 : decode cX8_compile 48 = .ok (.putfield 165, 3) := by decide +kernel
theorem dX8_compile_51 : decode cX8_compile 51 = .ok (.aload_n 0, 1) := by decide +kernel
theorem dX8_compile_52 : decode cX8_compile 52 = .ok (.iconst 1, 1) := by decide +kernel
theorem dX8_compile_53 : decode cX8_compile 53 = .ok (.putfield 265, 3) := by decide +kernel
theorem dX8_compile_56 : decode cX8_compile 56 = .ok (.aload_n 0, 1) := by decide +kernel
theorem dX8_compile_57 : decode cX8_compile 57 = .ok (.iconst 0, 1) := by decide +kernel
theorem dX8_compile_58 : decode cX8_compile 58 = .ok (.putfield 268, 3) := by decide +kernel
theorem dX8_compile_61 : decode cX8_compile 61 = .ok (.aload_n 0, 1) := by decide +kernel
theorem dX8_compile_62 : decode cX8_compile 62 = .ok (.iconst 0, 1) := by decide +kernel
theorem dX8_compile_63 : decode cX8_compile 63 = .ok (.putfield 271, 3) := by decide +kernel
theorem dX8_compile_66 : decode cX8_compile 66 = .ok (.aload_n 0, 1) := by decide +kernel
theorem dX8_compile_67 : decode cX8_compile 67 = .ok (.iconst 0, 1) := by decide +kernel
theorem dX8_compile_68 : decode cX8_compile 68 = .ok (.putfield 274, 3) := by decide +kernel
theorem dX8_compile_71 : decode cX8_compile 71 = .ok (.aload_n 0, 1) := by decide +kernel
theorem dX8_compile_72 : decode cX8_compile 72 = .ok (.iconst 0, 1) := by decide +kernel
theorem dX8_compile_73 : decode cX8_compile 73 = .ok (.putfield 277, 3) := by decide +kernel
theorem dX8_compile_76 : decode cX8_compile 76 = .ok (.aload_n 0, 1) := by decide +kernel
theorem dX8_compile_77 : decode cX8_compile 77 = .ok (.iconst 0, 1) := by decide +kernel
theorem dX8_compile_78 : decode cX8_compile 78 = .ok (.putfield 280, 3) := by decide +kernel
theorem dX8_compile_81 : decode cX8_compile 81 = .ok (.iconst 0, 1) := by decide +kernel
theorem dX8_compile_82 : decode cX8_compile 82 = .ok (.istore_n 1, 1) := by decide +kernel
theorem dX8_compile_83 : decode cX8_compile 83 = .ok (.iload_n 1, 1) := by decide +kernel
theorem dX8_compile_84 : decode cX8_compile 84 = .ok (.sipush 256, 3) := by decide +kernel
theorem dX8_compile_87 : decode cX8_compile 87 = .ok (.if_icmp .ge 16, 3) := by decide +kernel
theorem dX8_compile_90 : decode cX8_compile 90 = .ok (.aload_n 0, 1) := by decide +kernel
theorem dX8_compile_91 : decode cX8_compile 91 = .ok (.getfield 91, 3) := by decide +kernel
theorem dX8_compile_94 : decode cX8_compile 94 = .ok (.iload_n 1, 1) := by decide +kernel
theorem dX8_compile_95 : decode cX8_compile 95 = .ok (.iconst (-1), 1) := by decide +kernel
theorem dX8_compile_96 : decode cX8_compile 96 = .ok (.iastore, 1) := by decide +kernel
theorem dX8_compile_97 : decode cX8_compile 97 = .ok (.iinc 1 1, 3) := by decide +kernel
theorem dX8_compile_100 : decode cX8_compile 100 = .ok (.goto (-17), 3) := by decide +kernel
theorem dX8_compile_103 : decode cX8_compile 103 = .ok (.iconst 0, 1) := by decide +kernel
theorem dX8_compile_104 : decode cX8_compile 104 = .ok (.istore_n 1, 1) := by decide +kernel
theorem dX8_compile_105 : decode cX8_compile 105 = .ok (.iload_n 1, 1) := by decide +kernel
theorem dX8_compile_106 : decode cX8_compile 106 = .ok (.aload_n 0, 1) := by decide +kernel
theorem dX8_compile_107 : decode cX8_compile 107 = .ok (.getfield 262, 3) := by decide +kernel
theorem dX8_compile_110 : decode cX8_compile 110 = .ok (.if_icmp .gt 63, 3) := by decide +kernel
theorem dX8_compile_113 : decode cX8_compile 113 = .ok (.aload_n 0, 1) := by decide +kernel
theorem dX8_compile_114 : decode cX8_compile 114 = .ok (.getfield 73, 3) := by decide +kernel
theorem dX8_compile_117 : decode cX8_compile 117 = .ok (.iload_n 1, 1) := by decide +kernel
theorem dX8_compile_118 : decode cX8_compile 118 = .ok (.aload_n 0, 1) := by decide +kernel
theorem dX8_compile_119 : decode cX8_compile 119 = .ok (.iload_n 1, 1) := by decide +kernel
theorem dX8_compile_120 : decode cX8_compile 120 = .ok (.invokevirtual 283, 3) := by decide +kernel
theorem dX8_compile_123 : decode cX8_compile 123 = .ok (.iastore, 1) := by decide +kernel
theorem dX8_compile_124 : decode cX8_compile 124 = .ok (.aload_n 0, 1) := by decide +kernel
theorem dX8_compile_125 : decode cX8_compile 125 = .ok (.getfield 70, 3) := by decide +kernel
theorem dX8_compile_128 : decode cX8_compile 128 = .ok (.iload_n 1, 1) := by decide +kernel
theorem dX8_compile_129 : decode cX8_compile 129 = .ok (.iload_n 1, 1) := by decide +kernel
theorem dX8_compile_130 : decode cX8_compile 130 = .ok (.iastore, 1) := by decide +kernel
theorem dX8_compile_131 : decode cX8_compile 131 = .ok (.iload_n 1, 1) := by decide +kernel
theorem dX8_compile_132 : decode cX8_compile 132 = .ok (.iconst 1, 1) := by decide +kernel
theorem dX8_compile_133 : decode cX8_compile 133 = .ok (.isub, 1) := by decide +kernel
theorem dX8_compile_134 : decode cX8_compile 134 = .ok (.istore_n 2, 1) := by decide +kernel
theorem dX8_compile_135 : decode cX8_compile 135 = .ok (.iload_n 2, 1) := by decide +kernel
theorem dX8_compile_136 : decode cX8_compile 136 = .ok (.ifCond .lt 31, 3) := by decide +kernel
theorem dX8_compile_139 : decode cX8_compile 139 = .ok (.aload_n 0, 1) := by decide +kernel
theorem dX8_compile_140 : decode cX8_compile 140 = .ok (.getfield 73, 3) := by decide +kernel
theorem dX8_compile_143 : decode cX8_compile 143 = .ok (.iload_n 2, 1) := by decide +kernel
theorem dX8_compile_144 : decode cX8_compile 144 = .ok (.iaload, 1) := by decide +kernel
theorem dX8_compile_145 : decode cX8_compile 145 = .ok (.aload_n 0, 1) := by decide +kernel
theorem dX8_compile_146 : decode cX8_compile 146 = .ok (.getfield 73, 3) := by decide +kernel
theorem dX8_compile_149 : decode cX8_compile 149 = .ok (.iload_n 1, 1) := by decide +kernel
theorem dX8_compile_150 : decode cX8_compile 150 = .ok (.iaload, 1) := by decide +kernel
theorem dX8_compile_151 : decode cX8_compile 151 = .ok (.if_icmp .ne 10, 3) := by decide +kernel
theorem dX8_compile_154 : decode cX8_compile 154 = .ok (.aload_n 0, 1) := by decide +kernel
theorem dX8_compile_155 : decode cX8_compile 155 = .ok (.getfield 70, 3) := by decide +kernel
theorem dX8_compile_158 : decode cX8_compile 158 = .ok (.iload_n 1, 1) := by decide +kernel
theorem dX8_compile_159 : decode cX8_compile 159 = .ok (.iload_n 2, 1) := by decide +kernel
theorem dX8_compile_160 : decode cX8_compile 160 = .ok (.iastore, 1) := by decide +kernel
theorem dX8_compile_161 : decode cX8_compile 161 = .ok (.iinc 2 (-1), 3) := by decide +kernel
theorem dX8_compile_164 : decode cX8_compile 164 = .ok (.goto (-29), 3) := by decide +kernel
theorem dX8_compile_167 : decode cX8_compile 167 = .ok (.iinc 1 1, 3) := by decide +kernel
theorem dX8_compile_170 : decode cX8_compile 170 = .ok (.goto (-65), 3) := by decide +kernel
theorem dX8_compile_173 : decode cX8_compile 173 = .ok (.aload_n 0, 1) := by decide +kernel
theorem dX8_compile_174 : decode cX8_compile 174 = .ok (.getfield 262, 3) := by decide +kernel
theorem dX8_compile_177 : decode cX8_compile 177 = .ok (.ireturn, 1) := by decide +kernel
theorem dX8_mutant_0 : decode cX8_mutant 0 = .ok (.aload_n 0, 1) := by decide +kernel
theorem dX8_mutant_1 : decode cX8_mutant 1 = .ok (.iconst 0, 1) := by decide +kernel
theorem dX8_mutant_2 : decode cX8_mutant 2 = .ok (.putfield 126, 3) := by decide +kernel
theorem dX8_mutant_5 : decode cX8_mutant 5 = .ok (.aload_n 0, 1) := by decide +kernel
theorem dX8_mutant_6 : decode cX8_mutant 6 = .ok (.getfield 265, 3) := by decide +kernel
theorem dX8_mutant_9 : decode cX8_mutant 9 = .ok (.ifCond .ne 9, 3) := by decide +kernel
theorem dX8_mutant_12 : decode cX8_mutant 12 = .ok (.aload_n 0, 1) := by decide +kernel
theorem dX8_mutant_13 : decode cX8_mutant 13 = .ok (.iconst 1, 1) := by decide +kernel
theorem dX8_mutant_14 : decode cX8_mutant 14 = .ok (.invokevirtual 255, 3) := by decide +kernel
theorem dX8_mutant_17 : decode cX8_mutant 17 = .ok (.ireturn, 1) := by decide +kernel
theorem dX8_mutant_18 : decode cX8_mutant 18 = .ok (.iload_n 1, 1) := by decide +kernel
theorem dX8_mutant_19 : decode cX8_mutant 19 = .ok (.iconst 1, 1) := by decide +kernel
theorem dX8_mutant_20 : decode cX8_mutant 20 = .ok (.if_icmp .lt 11, 3) := by decide +kernel
theorem dX8_mutant_23 : decode cX8_mutant 23 = .ok (.iload_n 1, 1) := by decide +kernel
theorem dX8_mutant_24 : decode cX8_mutant 24 = .ok (.aload_n 0, 1) := by decide +kernel
theorem dX8_mutant_25 : decode cX8_mutant 25 = .ok (.getfield 262, 3) := by decide +kernel
theorem dX8_mutant_28 : decode cX8_mutant 28 = .ok (.if_icmp .le 9, 3) := by decide +kernel
theorem dX8_mutant_31 : decode cX8_mutant 31 = .ok (.aload_n 0, 1) := by decide +kernel
theorem dX8_mutant_32 : decode cX8_mutant 32 = .ok (.iconst 2, 1) := by decide +kernel
theorem dX8_mutant_33 : decode cX8_mutant 33 = .ok (.invokevirtual 255, 3) := by decide +kernel
theorem dX8_mutant_36 : decode cX8_mutant 36 = .ok (.ireturn, 1) := by decide +kernel
theorem dX8_mutant_37 : decode cX8_mutant 37 = .ok (.iload_n 2, 1) := by decide +kernel
theorem dX8_mutant_38 : decode cX8_mutant 38 = .ok (.tableswitch 58 0 3 #[30, 37, 44, 51], 30) := by decide +kernel
theorem dX8_mutant_68 : decode cX8_mutant 68 = .ok (.aload_n 0, 1) := by decide +kernel
theorem dX8_mutant_69 : decode cX8_mutant 69 = .ok (.getfield 61, 3) := by decide +kernel
theorem dX8_mutant_72 : decode cX8_mutant 72 = .ok (.iload_n 1, 1) := by decide +kernel
theorem dX8_mutant_73 : decode cX8_mutant 73 = .ok (.iaload, 1) := by decide +kernel
theorem dX8_mutant_74 : decode cX8_mutant 74 = .ok (.ireturn, 1) := by decide +kernel
theorem dX8_mutant_75 : decode cX8_mutant 75 = .ok (.aload_n 0, 1) := by decide +kernel
theorem dX8_mutant_76 : decode cX8_mutant 76 = .ok (.getfield 64, 3) := by decide +kernel
theorem dX8_mutant_79 : decode cX8_mutant 79 = .ok (.iload_n 1, 1) := by decide +kernel
theorem dX8_mutant_80 : decode cX8_mutant 80 = .ok (.iaload, 1) := by decide +kernel
theorem dX8_mutant_81 : decode cX8_mutant 81 = .ok (.ireturn, 1) := by decide +kernel
theorem dX8_mutant_82 : decode cX8_mutant 82 = .ok (.aload_n 0, 1) := by decide +kernel
theorem dX8_mutant_83 : decode cX8_mutant 83 = .ok (.getfield 67, 3) := by decide +kernel
theorem dX8_mutant_86 : decode cX8_mutant 86 = .ok (.iload_n 1, 1) := by decide +kernel
theorem dX8_mutant_87 : decode cX8_mutant 87 = .ok (.iaload, 1) := by decide +kernel
theorem dX8_mutant_88 : decode cX8_mutant 88 = .ok (.ireturn, 1) := by decide +kernel
theorem dX8_mutant_89 : decode cX8_mutant 89 = .ok (.aload_n 0, 1) := by decide +kernel
theorem dX8_mutant_90 : decode cX8_mutant 90 = .ok (.getfield 70, 3) := by decide +kernel
theorem dX8_mutant_93 : decode cX8_mutant 93 = .ok (.iload_n 1, 1) := by decide +kernel
theorem dX8_mutant_94 : decode cX8_mutant 94 = .ok (.iaload, 1) := by decide +kernel
theorem dX8_mutant_95 : decode cX8_mutant 95 = .ok (.ireturn, 1) := by decide +kernel
theorem dX8_mutant_96 : decode cX8_mutant 96 = .ok (.aload_n 0, 1) := by decide +kernel
theorem dX8_mutant_97 : decode cX8_mutant 97 = .ok (.iconst 3, 1) := by decide +kernel
theorem dX8_mutant_98 : decode cX8_mutant 98 = .ok (.invokevirtual 255, 3) := by decide +kernel
theorem dX8_mutant_101 : decode cX8_mutant 101 = .ok (.ireturn, 1) := by decide +kernel
theorem dX8_number_0 : decode cX8_number 0 = .ok (.iload_n 1, 1) := by decide +kernel
theorem dX8_number_1 : decode cX8_number 1 = .ok (.bipush 31, 2) := by decide +kernel
theorem dX8_number_3 : decode cX8_number 3 = .ok (.imul, 1) := by decide +kernel
theorem dX8_number_4 : decode cX8_number 4 = .ok (.iload_n 2, 1) := by decide +kernel
theorem dX8_number_5 : decode cX8_number 5 = .ok (.bipush 17, 2) := by decide +kernel
theorem dX8_number_7 : decode cX8_number 7 = .ok (.imul, 1) := by decide +kernel
theorem dX8_number_8 : decode cX8_number 8 = .ok (.iadd, 1) := by decide +kernel
theorem dX8_number_9 : decode cX8_number 9 = .ok (.iload_n 3, 1) := by decide +kernel
theorem dX8_number_10 : decode cX8_number 10 = .ok (.bipush 7, 2) := by decide +kernel
theorem dX8_number_12 : decode cX8_number 12 = .ok (.imul, 1) := by decide +kernel
theorem dX8_number_13 : decode cX8_number 13 = .ok (.iadd, 1) := by decide +kernel
theorem dX8_number_14 : decode cX8_number 14 = .ok (.iload 4, 2) := by decide +kernel
theorem dX8_number_16 : decode cX8_number 16 = .ok (.iadd, 1) := by decide +kernel
theorem dX8_number_17 : decode cX8_number 17 = .ok (.sipush 255, 3) := by decide +kernel
theorem dX8_number_20 : decode cX8_number 20 = .ok (.iand, 1) := by decide +kernel
theorem dX8_number_21 : decode cX8_number 21 = .ok (.istore 5, 2) := by decide +kernel
theorem dX8_number_23 : decode cX8_number 23 = .ok (.aload_n 0, 1) := by decide +kernel
theorem dX8_number_24 : decode cX8_number 24 = .ok (.getfield 91, 3) := by decide +kernel
theorem dX8_number_27 : decode cX8_number 27 = .ok (.iload 5, 2) := by decide +kernel
theorem dX8_number_29 : decode cX8_number 29 = .ok (.iaload, 1) := by decide +kernel
theorem dX8_number_30 : decode cX8_number 30 = .ok (.istore 6, 2) := by decide +kernel
theorem dX8_number_32 : decode cX8_number 32 = .ok (.iload 6, 2) := by decide +kernel
theorem dX8_number_34 : decode cX8_number 34 = .ok (.iconst (-1), 1) := by decide +kernel
theorem dX8_number_35 : decode cX8_number 35 = .ok (.if_icmp .eq 60, 3) := by decide +kernel
theorem dX8_number_38 : decode cX8_number 38 = .ok (.aload_n 0, 1) := by decide +kernel
theorem dX8_number_39 : decode cX8_number 39 = .ok (.getfield 76, 3) := by decide +kernel
theorem dX8_number_42 : decode cX8_number 42 = .ok (.iload 6, 2) := by decide +kernel
theorem dX8_number_44 : decode cX8_number 44 = .ok (.iaload, 1) := by decide +kernel
theorem dX8_number_45 : decode cX8_number 45 = .ok (.iload_n 1, 1) := by decide +kernel
theorem dX8_number_46 : decode cX8_number 46 = .ok (.if_icmp .ne 37, 3) := by decide +kernel
theorem dX8_number_49 : decode cX8_number 49 = .ok (.aload_n 0, 1) := by decide +kernel
theorem dX8_number_50 : decode cX8_number 50 = .ok (.getfield 79, 3) := by decide +kernel
theorem dX8_number_53 : decode cX8_number 53 = .ok (.iload 6, 2) := by decide +kernel
theorem dX8_number_55 : decode cX8_number 55 = .ok (.iaload, 1) := by decide +kernel
theorem dX8_number_56 : decode cX8_number 56 = .ok (.iload_n 2, 1) := by decide +kernel
theorem dX8_number_57 : decode cX8_number 57 = .ok (.if_icmp .ne 26, 3) := by decide +kernel
theorem dX8_number_60 : decode cX8_number 60 = .ok (.aload_n 0, 1) := by decide +kernel
theorem dX8_number_61 : decode cX8_number 61 = .ok (.getfield 82, 3) := by decide +kernel
theorem dX8_number_64 : decode cX8_number 64 = .ok (.iload 6, 2) := by decide +kernel
theorem dX8_number_66 : decode cX8_number 66 = .ok (.iaload, 1) := by decide +kernel
theorem dX8_number_67 : decode cX8_number 67 = .ok (.iload_n 3, 1) := by decide +kernel
theorem dX8_number_68 : decode cX8_number 68 = .ok (.if_icmp .ne 15, 3) := by decide +kernel
theorem dX8_number_71 : decode cX8_number 71 = .ok (.aload_n 0, 1) := by decide +kernel
theorem dX8_number_72 : decode cX8_number 72 = .ok (.getfield 85, 3) := by decide +kernel
theorem dX8_number_75 : decode cX8_number 75 = .ok (.iload 6, 2) := by decide +kernel
theorem dX8_number_77 : decode cX8_number 77 = .ok (.iaload, 1) := by decide +kernel
theorem dX8_number_78 : decode cX8_number 78 = .ok (.iload 4, 2) := by decide +kernel
theorem dX8_number_80 : decode cX8_number 80 = .ok (.if_icmp .eq 15, 3) := by decide +kernel
theorem dX8_number_83 : decode cX8_number 83 = .ok (.aload_n 0, 1) := by decide +kernel
theorem dX8_number_84 : decode cX8_number 84 = .ok (.getfield 88, 3) := by decide +kernel
theorem dX8_number_87 : decode cX8_number 87 = .ok (.iload 6, 2) := by decide +kernel
theorem dX8_number_89 : decode cX8_number 89 = .ok (.iaload, 1) := by decide +kernel
theorem dX8_number_90 : decode cX8_number 90 = .ok (.istore 6, 2) := by decide +kernel
theorem dX8_number_92 : decode cX8_number 92 = .ok (.goto (-60), 3) := by decide +kernel
theorem dX8_number_95 : decode cX8_number 95 = .ok (.iload 6, 2) := by decide +kernel
theorem dX8_number_97 : decode cX8_number 97 = .ok (.iconst (-1), 1) := by decide +kernel
theorem dX8_number_98 : decode cX8_number 98 = .ok (.if_icmp .eq 6, 3) := by decide +kernel
theorem dX8_number_101 : decode cX8_number 101 = .ok (.iload 6, 2) := by decide +kernel
theorem dX8_number_103 : decode cX8_number 103 = .ok (.ireturn, 1) := by decide +kernel
theorem dX8_number_104 : decode cX8_number 104 = .ok (.aload_n 0, 1) := by decide +kernel
theorem dX8_number_105 : decode cX8_number 105 = .ok (.getfield 280, 3) := by decide +kernel
theorem dX8_number_108 : decode cX8_number 108 = .ok (.istore 6, 2) := by decide +kernel
theorem dX8_number_110 : decode cX8_number 110 = .ok (.aload_n 0, 1) := by decide +kernel
theorem dX8_number_111 : decode cX8_number 111 = .ok (.getfield 76, 3) := by decide +kernel
theorem dX8_number_114 : decode cX8_number 114 = .ok (.iload 6, 2) := by decide +kernel
theorem dX8_number_116 : decode cX8_number 116 = .ok (.iload_n 1, 1) := by decide +kernel
theorem dX8_number_117 : decode cX8_number 117 = .ok (.iastore, 1) := by decide +kernel
theorem dX8_number_118 : decode cX8_number 118 = .ok (.aload_n 0, 1) := by decide +kernel
theorem dX8_number_119 : decode cX8_number 119 = .ok (.getfield 79, 3) := by decide +kernel
theorem dX8_number_122 : decode cX8_number 122 = .ok (.iload 6, 2) := by decide +kernel
theorem dX8_number_124 : decode cX8_number 124 = .ok (.iload_n 2, 1) := by decide +kernel
theorem dX8_number_125 : decode cX8_number 125 = .ok (.iastore, 1) := by decide +kernel
theorem dX8_number_126 : decode cX8_number 126 = .ok (.aload_n 0, 1) := by decide +kernel
theorem dX8_number_127 : decode cX8_number 127 = .ok (.getfield 82, 3) := by decide +kernel
theorem dX8_number_130 : decode cX8_number 130 = .ok (.iload 6, 2) := by decide +kernel
theorem dX8_number_132 : decode cX8_number 132 = .ok (.iload_n 3, 1) := by decide +kernel
theorem dX8_number_133 : decode cX8_number 133 = .ok (.iastore, 1) := by decide +kernel
theorem dX8_number_134 : decode cX8_number 134 = .ok (.aload_n 0, 1) := by decide +kernel
theorem dX8_number_135 : decode cX8_number 135 = .ok (.getfield 85, 3) := by decide +kernel
theorem dX8_number_138 : decode cX8_number 138 = .ok (.iload 6, 2) := by decide +kernel
theorem dX8_number_140 : decode cX8_number 140 = .ok (.iload 4, 2) := by decide +kernel
theorem dX8_number_142 : decode cX8_number 142 = .ok (.iastore, 1) := by decide +kernel
theorem dX8_number_143 : decode cX8_number 143 = .ok (.aload_n 0, 1) := by decide +kernel
theorem dX8_number_144 : decode cX8_number 144 = .ok (.getfield 88, 3) := by decide +kernel
theorem dX8_number_147 : decode cX8_number 147 = .ok (.iload 6, 2) := by decide +kernel
theorem dX8_number_149 : decode cX8_number 149 = .ok (.aload_n 0, 1) := by decide +kernel
theorem dX8_number_150 : decode cX8_number 150 = .ok (.getfield 91, 3) := by decide +kernel
theorem dX8_number_153 : decode cX8_number 153 = .ok (.iload 5, 2) := by decide +kernel
theorem dX8_number_155 : decode cX8_number 155 = .ok (.iaload, 1) := by decide +kernel
theorem dX8_number_156 : decode cX8_number 156 = .ok (.iastore, 1) := by decide +kernel
theorem dX8_number_157 : decode cX8_number 157 = .ok (.aload_n 0, 1) := by decide +kernel
theorem dX8_number_158 : decode cX8_number 158 = .ok (.getfield 91, 3) := by decide +kernel
theorem dX8_number_161 : decode cX8_number 161 = .ok (.iload 5, 2) := by decide +kernel
theorem dX8_number_163 : decode cX8_number 163 = .ok (.iload 6, 2) := by decide +kernel
theorem dX8_number_165 : decode cX8_number 165 = .ok (.iastore, 1) := by decide +kernel
theorem dX8_number_166 : decode cX8_number 166 = .ok (.aload_n 0, 1) := by decide +kernel
theorem dX8_number_167 : decode cX8_number 167 = .ok (.dup, 1) := by decide +kernel
theorem dX8_number_168 : decode cX8_number 168 = .ok (.getfield 280, 3) := by decide +kernel
theorem dX8_number_171 : decode cX8_number 171 = .ok (.iconst 1, 1) := by decide +kernel
theorem dX8_number_172 : decode cX8_number 172 = .ok (.iadd, 1) := by decide +kernel
theorem dX8_number_173 : decode cX8_number 173 = .ok (.putfield 280, 3) := by decide +kernel
theorem dX8_number_176 : decode cX8_number 176 = .ok (.iload 6, 2) := by decide +kernel
theorem dX8_number_178 : decode cX8_number 178 = .ok (.ireturn, 1) := by decide +kernel
theorem dX8_of_0 : decode cX8_of 0 = .ok (.iload_n 1, 1) := by decide +kernel
theorem dX8_of_1 : decode cX8_of 1 = .ok (.iconst (-1), 1) := by decide +kernel
theorem dX8_of_2 : decode cX8_of 2 = .ok (.if_icmp .ne 7, 3) := by decide +kernel
theorem dX8_of_5 : decode cX8_of 5 = .ok (.iconst (-1), 1) := by decide +kernel
theorem dX8_of_6 : decode cX8_of 6 = .ok (.goto 14, 3) := by decide +kernel
theorem dX8_of_9 : decode cX8_of 9 = .ok (.aload_n 0, 1) := by decide +kernel
theorem dX8_of_10 : decode cX8_of 10 = .ok (.getfield 94, 3) := by decide +kernel
theorem dX8_of_13 : decode cX8_of 13 = .ok (.iload_n 1, 1) := by decide +kernel
theorem dX8_of_14 : decode cX8_of 14 = .ok (.aload_n 0, 1) := by decide +kernel
theorem dX8_of_15 : decode cX8_of 15 = .ok (.getfield 165, 3) := by decide +kernel
theorem dX8_of_18 : decode cX8_of 18 = .ok (.isub, 1) := by decide +kernel
theorem dX8_of_19 : decode cX8_of 19 = .ok (.iaload, 1) := by decide +kernel
theorem dX8_of_20 : decode cX8_of 20 = .ok (.ireturn, 1) := by decide +kernel
theorem dX8_fold_0 : decode cX8_fold 0 = .ok (.aload_n 0, 1) := by decide +kernel
theorem dX8_fold_1 : decode cX8_fold 1 = .ok (.getfield 165, 3) := by decide +kernel
theorem dX8_fold_4 : decode cX8_fold 4 = .ok (.istore_n 2, 1) := by decide +kernel
theorem dX8_fold_5 : decode cX8_fold 5 = .ok (.iload_n 2, 1) := by decide +kernel
theorem dX8_fold_6 : decode cX8_fold 6 = .ok (.aload_n 0, 1) := by decide +kernel
theorem dX8_fold_7 : decode cX8_fold 7 = .ok (.getfield 165, 3) := by decide +kernel
theorem dX8_fold_10 : decode cX8_fold 10 = .ok (.aload_n 0, 1) := by decide +kernel
theorem dX8_fold_11 : decode cX8_fold 11 = .ok (.getfield 156, 3) := by decide +kernel
theorem dX8_fold_14 : decode cX8_fold 14 = .ok (.iadd, 1) := by decide +kernel
theorem dX8_fold_15 : decode cX8_fold 15 = .ok (.if_icmp .ge 70, 3) := by decide +kernel
theorem dX8_fold_18 : decode cX8_fold 18 = .ok (.iload_n 1, 1) := by decide +kernel
theorem dX8_fold_19 : decode cX8_fold 19 = .ok (.ifCond .le 22, 3) := by decide +kernel
theorem dX8_fold_22 : decode cX8_fold 22 = .ok (.aload_n 0, 1) := by decide +kernel
theorem dX8_fold_23 : decode cX8_fold 23 = .ok (.getfield 34, 3) := by decide +kernel
theorem dX8_fold_26 : decode cX8_fold 26 = .ok (.iload_n 2, 1) := by decide +kernel
theorem dX8_fold_27 : decode cX8_fold 27 = .ok (.iaload, 1) := by decide +kernel
theorem dX8_fold_28 : decode cX8_fold 28 = .ok (.aload_n 0, 1) := by decide +kernel
theorem dX8_fold_29 : decode cX8_fold 29 = .ok (.getfield 61, 3) := by decide +kernel
theorem dX8_fold_32 : decode cX8_fold 32 = .ok (.iload_n 1, 1) := by decide +kernel
theorem dX8_fold_33 : decode cX8_fold 33 = .ok (.iaload, 1) := by decide +kernel
theorem dX8_fold_34 : decode cX8_fold 34 = .ok (.if_icmp .ne 7, 3) := by decide +kernel
theorem dX8_fold_37 : decode cX8_fold 37 = .ok (.iconst 1, 1) := by decide +kernel
theorem dX8_fold_38 : decode cX8_fold 38 = .ok (.goto 4, 3) := by decide +kernel
theorem dX8_fold_41 : decode cX8_fold 41 = .ok (.iconst 0, 1) := by decide +kernel
theorem dX8_fold_42 : decode cX8_fold 42 = .ok (.istore_n 3, 1) := by decide +kernel
theorem dX8_fold_43 : decode cX8_fold 43 = .ok (.aload_n 0, 1) := by decide +kernel
theorem dX8_fold_44 : decode cX8_fold 44 = .ok (.getfield 94, 3) := by decide +kernel
theorem dX8_fold_47 : decode cX8_fold 47 = .ok (.iload_n 2, 1) := by decide +kernel
theorem dX8_fold_48 : decode cX8_fold 48 = .ok (.aload_n 0, 1) := by decide +kernel
theorem dX8_fold_49 : decode cX8_fold 49 = .ok (.getfield 165, 3) := by decide +kernel
theorem dX8_fold_52 : decode cX8_fold 52 = .ok (.isub, 1) := by decide +kernel
theorem dX8_fold_53 : decode cX8_fold 53 = .ok (.aload_n 0, 1) := by decide +kernel
theorem dX8_fold_54 : decode cX8_fold 54 = .ok (.iload_n 2, 1) := by decide +kernel
theorem dX8_fold_55 : decode cX8_fold 55 = .ok (.iload_n 3, 1) := by decide +kernel
theorem dX8_fold_56 : decode cX8_fold 56 = .ok (.iload_n 3, 1) := by decide +kernel
theorem dX8_fold_57 : decode cX8_fold 57 = .ok (.ifCond .eq 12, 3) := by decide +kernel
theorem dX8_fold_60 : decode cX8_fold 60 = .ok (.aload_n 0, 1) := by decide +kernel
theorem dX8_fold_61 : decode cX8_fold 61 = .ok (.getfield 67, 3) := by decide +kernel
theorem dX8_fold_64 : decode cX8_fold 64 = .ok (.iload_n 1, 1) := by decide +kernel
theorem dX8_fold_65 : decode cX8_fold 65 = .ok (.iaload, 1) := by decide +kernel
theorem dX8_fold_66 : decode cX8_fold 66 = .ok (.goto 9, 3) := by decide +kernel
theorem dX8_fold_69 : decode cX8_fold 69 = .ok (.aload_n 0, 1) := by decide +kernel
theorem dX8_fold_70 : decode cX8_fold 70 = .ok (.getfield 25, 3) := by decide +kernel
theorem dX8_fold_73 : decode cX8_fold 73 = .ok (.iload_n 2, 1) := by decide +kernel
theorem dX8_fold_74 : decode cX8_fold 74 = .ok (.iaload, 1) := by decide +kernel
theorem dX8_fold_75 : decode cX8_fold 75 = .ok (.invokevirtual 286, 3) := by decide +kernel
theorem dX8_fold_78 : decode cX8_fold 78 = .ok (.iastore, 1) := by decide +kernel
theorem dX8_fold_79 : decode cX8_fold 79 = .ok (.iinc 2 1, 3) := by decide +kernel
theorem dX8_fold_82 : decode cX8_fold 82 = .ok (.goto (-77), 3) := by decide +kernel
theorem dX8_fold_85 : decode cX8_fold 85 = .ok (.aload_n 0, 1) := by decide +kernel
theorem dX8_fold_86 : decode cX8_fold 86 = .ok (.aload_n 0, 1) := by decide +kernel
theorem dX8_fold_87 : decode cX8_fold 87 = .ok (.getfield 182, 3) := by decide +kernel
theorem dX8_fold_90 : decode cX8_fold 90 = .ok (.invokevirtual 290, 3) := by decide +kernel
theorem dX8_fold_93 : decode cX8_fold 93 = .ok (.ireturn, 1) := by decide +kernel
theorem dX8_foldNode_0 : decode cX8_foldNode 0 = .ok (.aload_n 0, 1) := by decide +kernel
theorem dX8_foldNode_1 : decode cX8_foldNode 1 = .ok (.getfield 22, 3) := by decide +kernel
theorem dX8_foldNode_4 : decode cX8_foldNode 4 = .ok (.iload_n 1, 1) := by decide +kernel
theorem dX8_foldNode_5 : decode cX8_foldNode 5 = .ok (.iaload, 1) := by decide +kernel
theorem dX8_foldNode_6 : decode cX8_foldNode 6 = .ok (.tableswitch 202 0 11 #[62, 71, 85, 99, 125, 151, 202, 202, 202, 202, 202, 177], 62) := by decide +kernel
theorem dX8_foldNode_68 : decode cX8_foldNode 68 = .ok (.aload_n 0, 1) := by decide +kernel
theorem dX8_foldNode_69 : decode cX8_foldNode 69 = .ok (.iconst 0, 1) := by decide +kernel
theorem dX8_foldNode_70 : decode cX8_foldNode 70 = .ok (.iload_n 3, 1) := by decide +kernel
theorem dX8_foldNode_71 : decode cX8_foldNode 71 = .ok (.iconst 0, 1) := by decide +kernel
theorem dX8_foldNode_72 : decode cX8_foldNode 72 = .ok (.iconst 0, 1) := by decide +kernel
theorem dX8_foldNode_73 : decode cX8_foldNode 73 = .ok (.invokevirtual 293, 3) := by decide +kernel
theorem dX8_foldNode_76 : decode cX8_foldNode 76 = .ok (.ireturn, 1) := by decide +kernel
theorem dX8_foldNode_77 : decode cX8_foldNode 77 = .ok (.aload_n 0, 1) := by decide +kernel
theorem dX8_foldNode_78 : decode cX8_foldNode 78 = .ok (.iconst 1, 1) := by decide +kernel
theorem dX8_foldNode_79 : decode cX8_foldNode 79 = .ok (.aload_n 0, 1) := by decide +kernel
theorem dX8_foldNode_80 : decode cX8_foldNode 80 = .ok (.getfield 25, 3) := by decide +kernel
theorem dX8_foldNode_83 : decode cX8_foldNode 83 = .ok (.iload_n 1, 1) := by decide +kernel
theorem dX8_foldNode_84 : decode cX8_foldNode 84 = .ok (.iaload, 1) := by decide +kernel
theorem dX8_foldNode_85 : decode cX8_foldNode 85 = .ok (.iconst 0, 1) := by decide +kernel
theorem dX8_foldNode_86 : decode cX8_foldNode 86 = .ok (.iconst 0, 1) := by decide +kernel
theorem dX8_foldNode_87 : decode cX8_foldNode 87 = .ok (.invokevirtual 293, 3) := by decide +kernel
theorem dX8_foldNode_90 : decode cX8_foldNode 90 = .ok (.ireturn, 1) := by decide +kernel
theorem dX8_foldNode_91 : decode cX8_foldNode 91 = .ok (.aload_n 0, 1) := by decide +kernel
theorem dX8_foldNode_92 : decode cX8_foldNode 92 = .ok (.iconst 2, 1) := by decide +kernel
theorem dX8_foldNode_93 : decode cX8_foldNode 93 = .ok (.aload_n 0, 1) := by decide +kernel
theorem dX8_foldNode_94 : decode cX8_foldNode 94 = .ok (.getfield 25, 3) := by decide +kernel
theorem dX8_foldNode_97 : decode cX8_foldNode 97 = .ok (.iload_n 1, 1) := by decide +kernel
theorem dX8_foldNode_98 : decode cX8_foldNode 98 = .ok (.iaload, 1) := by decide +kernel
theorem dX8_foldNode_99 : decode cX8_foldNode 99 = .ok (.iconst 0, 1) := by decide +kernel
theorem dX8_foldNode_100 : decode cX8_foldNode 100 = .ok (.iconst 0, 1) := by decide +kernel
theorem dX8_foldNode_101 : decode cX8_foldNode 101 = .ok (.invokevirtual 293, 3) := by decide +kernel
theorem dX8_foldNode_104 : decode cX8_foldNode 104 = .ok (.ireturn, 1) := by decide +kernel
theorem dX8_foldNode_105 : decode cX8_foldNode 105 = .ok (.aload_n 0, 1) := by decide +kernel
theorem dX8_foldNode_106 : decode cX8_foldNode 106 = .ok (.iload_n 3, 1) := by decide +kernel
theorem dX8_foldNode_107 : decode cX8_foldNode 107 = .ok (.aload_n 0, 1) := by decide +kernel
theorem dX8_foldNode_108 : decode cX8_foldNode 108 = .ok (.aload_n 0, 1) := by decide +kernel
theorem dX8_foldNode_109 : decode cX8_foldNode 109 = .ok (.getfield 28, 3) := by decide +kernel
theorem dX8_foldNode_112 : decode cX8_foldNode 112 = .ok (.iload_n 1, 1) := by decide +kernel
theorem dX8_foldNode_113 : decode cX8_foldNode 113 = .ok (.iaload, 1) := by decide +kernel
theorem dX8_foldNode_114 : decode cX8_foldNode 114 = .ok (.invokevirtual 290, 3) := by decide +kernel
theorem dX8_foldNode_117 : decode cX8_foldNode 117 = .ok (.aload_n 0, 1) := by decide +kernel
theorem dX8_foldNode_118 : decode cX8_foldNode 118 = .ok (.aload_n 0, 1) := by decide +kernel
theorem dX8_foldNode_119 : decode cX8_foldNode 119 = .ok (.getfield 31, 3) := by decide +kernel
theorem dX8_foldNode_122 : decode cX8_foldNode 122 = .ok (.iload_n 1, 1) := by decide +kernel
theorem dX8_foldNode_123 : decode cX8_foldNode 123 = .ok (.iaload, 1) := by decide +kernel
theorem dX8_foldNode_124 : decode cX8_foldNode 124 = .ok (.invokevirtual 290, 3) := by decide +kernel
theorem dX8_foldNode_127 : decode cX8_foldNode 127 = .ok (.invokevirtual 297, 3) := by decide +kernel
theorem dX8_foldNode_130 : decode cX8_foldNode 130 = .ok (.ireturn, 1) := by decide +kernel
theorem dX8_foldNode_131 : decode cX8_foldNode 131 = .ok (.aload_n 0, 1) := by decide +kernel
theorem dX8_foldNode_132 : decode cX8_foldNode 132 = .ok (.iload_n 3, 1) := by decide +kernel
theorem dX8_foldNode_133 : decode cX8_foldNode 133 = .ok (.aload_n 0, 1) := by decide +kernel
theorem dX8_foldNode_134 : decode cX8_foldNode 134 = .ok (.aload_n 0, 1) := by decide +kernel
theorem dX8_foldNode_135 : decode cX8_foldNode 135 = .ok (.getfield 28, 3) := by decide +kernel
theorem dX8_foldNode_138 : decode cX8_foldNode 138 = .ok (.iload_n 1, 1) := by decide +kernel
theorem dX8_foldNode_139 : decode cX8_foldNode 139 = .ok (.iaload, 1) := by decide +kernel
theorem dX8_foldNode_140 : decode cX8_foldNode 140 = .ok (.invokevirtual 290, 3) := by decide +kernel
theorem dX8_foldNode_143 : decode cX8_foldNode 143 = .ok (.aload_n 0, 1) := by decide +kernel
theorem dX8_foldNode_144 : decode cX8_foldNode 144 = .ok (.aload_n 0, 1) := by decide +kernel
theorem dX8_foldNode_145 : decode cX8_foldNode 145 = .ok (.getfield 31, 3) := by decide +kernel
theorem dX8_foldNode_148 : decode cX8_foldNode 148 = .ok (.iload_n 1, 1) := by decide +kernel
theorem dX8_foldNode_149 : decode cX8_foldNode 149 = .ok (.iaload, 1) := by decide +kernel
theorem dX8_foldNode_150 : decode cX8_foldNode 150 = .ok (.invokevirtual 290, 3) := by decide +kernel
theorem dX8_foldNode_153 : decode cX8_foldNode 153 = .ok (.invokevirtual 300, 3) := by decide +kernel
theorem dX8_foldNode_156 : decode cX8_foldNode 156 = .ok (.ireturn, 1) := by decide +kernel
theorem dX8_foldNode_157 : decode cX8_foldNode 157 = .ok (.aload_n 0, 1) := by decide +kernel
theorem dX8_foldNode_158 : decode cX8_foldNode 158 = .ok (.iload_n 3, 1) := by decide +kernel
theorem dX8_foldNode_159 : decode cX8_foldNode 159 = .ok (.aload_n 0, 1) := by decide +kernel
theorem dX8_foldNode_160 : decode cX8_foldNode 160 = .ok (.aload_n 0, 1) := by decide +kernel
theorem dX8_foldNode_161 : decode cX8_foldNode 161 = .ok (.getfield 28, 3) := by decide +kernel
theorem dX8_foldNode_164 : decode cX8_foldNode 164 = .ok (.iload_n 1, 1) := by decide +kernel
theorem dX8_foldNode_165 : decode cX8_foldNode 165 = .ok (.iaload, 1) := by decide +kernel
theorem dX8_foldNode_166 : decode cX8_foldNode 166 = .ok (.invokevirtual 290, 3) := by decide +kernel
theorem dX8_foldNode_169 : decode cX8_foldNode 169 = .ok (.aload_n 0, 1) := by decide +kernel
theorem dX8_foldNode_170 : decode cX8_foldNode 170 = .ok (.aload_n 0, 1) := by decide +kernel
theorem dX8_foldNode_171 : decode cX8_foldNode 171 = .ok (.getfield 31, 3) := by decide +kernel
theorem dX8_foldNode_174 : decode cX8_foldNode 174 = .ok (.iload_n 1, 1) := by decide +kernel
theorem dX8_foldNode_175 : decode cX8_foldNode 175 = .ok (.iaload, 1) := by decide +kernel
theorem dX8_foldNode_176 : decode cX8_foldNode 176 = .ok (.invokevirtual 290, 3) := by decide +kernel
theorem dX8_foldNode_179 : decode cX8_foldNode 179 = .ok (.invokevirtual 303, 3) := by decide +kernel
theorem dX8_foldNode_182 : decode cX8_foldNode 182 = .ok (.ireturn, 1) := by decide +kernel
theorem dX8_foldNode_183 : decode cX8_foldNode 183 = .ok (.aload_n 0, 1) := by decide +kernel
theorem dX8_foldNode_184 : decode cX8_foldNode 184 = .ok (.aload_n 0, 1) := by decide +kernel
theorem dX8_foldNode_185 : decode cX8_foldNode 185 = .ok (.aload_n 0, 1) := by decide +kernel
theorem dX8_foldNode_186 : decode cX8_foldNode 186 = .ok (.getfield 25, 3) := by decide +kernel
theorem dX8_foldNode_189 : decode cX8_foldNode 189 = .ok (.iload_n 1, 1) := by decide +kernel
theorem dX8_foldNode_190 : decode cX8_foldNode 190 = .ok (.iaload, 1) := by decide +kernel
theorem dX8_foldNode_191 : decode cX8_foldNode 191 = .ok (.invokevirtual 290, 3) := by decide +kernel
theorem dX8_foldNode_194 : decode cX8_foldNode 194 = .ok (.aload_n 0, 1) := by decide +kernel
theorem dX8_foldNode_195 : decode cX8_foldNode 195 = .ok (.aload_n 0, 1) := by decide +kernel
theorem dX8_foldNode_196 : decode cX8_foldNode 196 = .ok (.getfield 28, 3) := by decide +kernel
theorem dX8_foldNode_199 : decode cX8_foldNode 199 = .ok (.iload_n 1, 1) := by decide +kernel
theorem dX8_foldNode_200 : decode cX8_foldNode 200 = .ok (.iaload, 1) := by decide +kernel
theorem dX8_foldNode_201 : decode cX8_foldNode 201 = .ok (.invokevirtual 290, 3) := by decide +kernel
theorem dX8_foldNode_204 : decode cX8_foldNode 204 = .ok (.invokevirtual 306, 3) := by decide +kernel
theorem dX8_foldNode_207 : decode cX8_foldNode 207 = .ok (.ireturn, 1) := by decide +kernel
theorem dX8_foldNode_208 : decode cX8_foldNode 208 = .ok (.iload_n 2, 1) := by decide +kernel
theorem dX8_foldNode_209 : decode cX8_foldNode 209 = .ok (.ifCond .eq 7, 3) := by decide +kernel
theorem dX8_foldNode_212 : decode cX8_foldNode 212 = .ok (.iconst (-1), 1) := by decide +kernel
theorem dX8_foldNode_213 : decode cX8_foldNode 213 = .ok (.goto 8, 3) := by decide +kernel
theorem dX8_foldNode_216 : decode cX8_foldNode 216 = .ok (.aload_n 0, 1) := by decide +kernel
theorem dX8_foldNode_217 : decode cX8_foldNode 217 = .ok (.iload_n 1, 1) := by decide +kernel
theorem dX8_foldNode_218 : decode cX8_foldNode 218 = .ok (.invokevirtual 309, 3) := by decide +kernel
theorem dX8_foldNode_221 : decode cX8_foldNode 221 = .ok (.ireturn, 1) := by decide +kernel
theorem dX8_isConstant_0 : decode cX8_isConstant 0 = .ok (.aload_n 0, 1) := by decide +kernel
theorem dX8_isConstant_1 : decode cX8_isConstant 1 = .ok (.getfield 76, 3) := by decide +kernel
theorem dX8_isConstant_4 : decode cX8_isConstant 4 = .ok (.iload_n 1, 1) := by decide +kernel
theorem dX8_isConstant_5 : decode cX8_isConstant 5 = .ok (.iaload, 1) := by decide +kernel
theorem dX8_isConstant_6 : decode cX8_isConstant 6 = .ok (.ifCond .ne 17, 3) := by decide +kernel
theorem dX8_isConstant_9 : decode cX8_isConstant 9 = .ok (.aload_n 0, 1) := by decide +kernel
theorem dX8_isConstant_10 : decode cX8_isConstant 10 = .ok (.getfield 79, 3) := by decide +kernel
theorem dX8_isConstant_13 : decode cX8_isConstant 13 = .ok (.iload_n 1, 1) := by decide +kernel
theorem dX8_isConstant_14 : decode cX8_isConstant 14 = .ok (.iaload, 1) := by decide +kernel
theorem dX8_isConstant_15 : decode cX8_isConstant 15 = .ok (.iload_n 2, 1) := by decide +kernel
theorem dX8_isConstant_16 : decode cX8_isConstant 16 = .ok (.if_icmp .ne 7, 3) := by decide +kernel
theorem dX8_isConstant_19 : decode cX8_isConstant 19 = .ok (.iconst 1, 1) := by decide +kernel
theorem dX8_isConstant_20 : decode cX8_isConstant 20 = .ok (.goto 4, 3) := by decide +kernel
theorem dX8_isConstant_23 : decode cX8_isConstant 23 = .ok (.iconst 0, 1) := by decide +kernel
theorem dX8_isConstant_24 : decode cX8_isConstant 24 = .ok (.ireturn, 1) := by decide +kernel
theorem dX8_worked_0 : decode cX8_worked 0 = .ok (.iload_n 0, 1) := by decide +kernel
theorem dX8_worked_1 : decode cX8_worked 1 = .ok (.tableswitch 55 42 47 #[47, 39, 55, 43, 55, 51], 39) := by decide +kernel
theorem dX8_worked_40 : decode cX8_worked 40 = .ok (.iload_n 1, 1) := by decide +kernel
theorem dX8_worked_41 : decode cX8_worked 41 = .ok (.iload_n 2, 1) := by decide +kernel
theorem dX8_worked_42 : decode cX8_worked 42 = .ok (.iadd, 1) := by decide +kernel
theorem dX8_worked_43 : decode cX8_worked 43 = .ok (.ireturn, 1) := by decide +kernel
theorem dX8_worked_44 : decode cX8_worked 44 = .ok (.iload_n 1, 1) := by decide +kernel
theorem dX8_worked_45 : decode cX8_worked 45 = .ok (.iload_n 2, 1) := by decide +kernel
theorem dX8_worked_46 : decode cX8_worked 46 = .ok (.isub, 1) := by decide +kernel
theorem dX8_worked_47 : decode cX8_worked 47 = .ok (.ireturn, 1) := by decide +kernel
theorem dX8_worked_48 : decode cX8_worked 48 = .ok (.iload_n 1, 1) := by decide +kernel
theorem dX8_worked_49 : decode cX8_worked 49 = .ok (.iload_n 2, 1) := by decide +kernel
theorem dX8_worked_50 : decode cX8_worked 50 = .ok (.imul, 1) := by decide +kernel
theorem dX8_worked_51 : decode cX8_worked 51 = .ok (.ireturn, 1) := by decide +kernel
theorem dX8_worked_52 : decode cX8_worked 52 = .ok (.iload_n 1, 1) := by decide +kernel
theorem dX8_worked_53 : decode cX8_worked 53 = .ok (.iload_n 2, 1) := by decide +kernel
theorem dX8_worked_54 : decode cX8_worked 54 = .ok (.idiv, 1) := by decide +kernel
theorem dX8_worked_55 : decode cX8_worked 55 = .ok (.ireturn, 1) := by decide +kernel
theorem dX8_worked_56 : decode cX8_worked 56 = .ok (.iload_n 1, 1) := by decide +kernel
theorem dX8_worked_57 : decode cX8_worked 57 = .ok (.iload_n 2, 1) := by decide +kernel
theorem dX8_worked_58 : decode cX8_worked 58 = .ok (.irem, 1) := by decide +kernel
theorem dX8_worked_59 : decode cX8_worked 59 = .ok (.ireturn, 1) := by decide +kernel
theorem dX8_traps_0 : decode cX8_traps 0 = .ok (.iload_n 1, 1) := by decide +kernel
theorem dX8_traps_1 : decode cX8_traps 1 = .ok (.ifCond .ne 19, 3) := by decide +kernel
theorem dX8_traps_4 : decode cX8_traps 4 = .ok (.iload_n 0, 1) := by decide +kernel
theorem dX8_traps_5 : decode cX8_traps 5 = .ok (.bipush 47, 2) := by decide +kernel
theorem dX8_traps_7 : decode cX8_traps 7 = .ok (.if_icmp .eq 9, 3) := by decide +kernel
theorem dX8_traps_10 : decode cX8_traps 10 = .ok (.iload_n 0, 1) := by decide +kernel
theorem dX8_traps_11 : decode cX8_traps 11 = .ok (.bipush 37, 2) := by decide +kernel
theorem dX8_traps_13 : decode cX8_traps 13 = .ok (.if_icmp .ne 7, 3) := by decide +kernel
theorem dX8_traps_16 : decode cX8_traps 16 = .ok (.iconst 1, 1) := by decide +kernel
theorem dX8_traps_17 : decode cX8_traps 17 = .ok (.goto 4, 3) := by decide +kernel
theorem dX8_traps_20 : decode cX8_traps 20 = .ok (.iconst 0, 1) := by decide +kernel
theorem dX8_traps_21 : decode cX8_traps 21 = .ok (.ireturn, 1) := by decide +kernel
theorem dX8_foldSum_0 : decode cX8_foldSum 0 = .ok (.aload_n 0, 1) := by decide +kernel
theorem dX8_foldSum_1 : decode cX8_foldSum 1 = .ok (.getfield 76, 3) := by decide +kernel
theorem dX8_foldSum_4 : decode cX8_foldSum 4 = .ok (.iload_n 2, 1) := by decide +kernel
theorem dX8_foldSum_5 : decode cX8_foldSum 5 = .ok (.iaload, 1) := by decide +kernel
theorem dX8_foldSum_6 : decode cX8_foldSum 6 = .ok (.ifCond .ne 49, 3) := by decide +kernel
theorem dX8_foldSum_9 : decode cX8_foldSum 9 = .ok (.aload_n 0, 1) := by decide +kernel
theorem dX8_foldSum_10 : decode cX8_foldSum 10 = .ok (.getfield 76, 3) := by decide +kernel
theorem dX8_foldSum_13 : decode cX8_foldSum 13 = .ok (.iload_n 3, 1) := by decide +kernel
theorem dX8_foldSum_14 : decode cX8_foldSum 14 = .ok (.iaload, 1) := by decide +kernel
theorem dX8_foldSum_15 : decode cX8_foldSum 15 = .ok (.ifCond .ne 40, 3) := by decide +kernel
theorem dX8_foldSum_18 : decode cX8_foldSum 18 = .ok (.iload_n 1, 1) := by decide +kernel
theorem dX8_foldSum_19 : decode cX8_foldSum 19 = .ok (.aload_n 0, 1) := by decide +kernel
theorem dX8_foldSum_20 : decode cX8_foldSum 20 = .ok (.getfield 79, 3) := by decide +kernel
theorem dX8_foldSum_23 : decode cX8_foldSum 23 = .ok (.iload_n 3, 1) := by decide +kernel
theorem dX8_foldSum_24 : decode cX8_foldSum 24 = .ok (.iaload, 1) := by decide +kernel
theorem dX8_foldSum_25 : decode cX8_foldSum 25 = .ok (.invokestatic 312, 3) := by decide +kernel
theorem dX8_foldSum_28 : decode cX8_foldSum 28 = .ok (.ifCond .ne 27, 3) := by decide +kernel
theorem dX8_foldSum_31 : decode cX8_foldSum 31 = .ok (.aload_n 0, 1) := by decide +kernel
theorem dX8_foldSum_32 : decode cX8_foldSum 32 = .ok (.iconst 0, 1) := by decide +kernel
theorem dX8_foldSum_33 : decode cX8_foldSum 33 = .ok (.iload_n 1, 1) := by decide +kernel
theorem dX8_foldSum_34 : decode cX8_foldSum 34 = .ok (.aload_n 0, 1) := by decide +kernel
theorem dX8_foldSum_35 : decode cX8_foldSum 35 = .ok (.getfield 79, 3) := by decide +kernel
theorem dX8_foldSum_38 : decode cX8_foldSum 38 = .ok (.iload_n 2, 1) := by decide +kernel
theorem dX8_foldSum_39 : decode cX8_foldSum 39 = .ok (.iaload, 1) := by decide +kernel
theorem dX8_foldSum_40 : decode cX8_foldSum 40 = .ok (.aload_n 0, 1) := by decide +kernel
theorem dX8_foldSum_41 : decode cX8_foldSum 41 = .ok (.getfield 79, 3) := by decide +kernel
theorem dX8_foldSum_44 : decode cX8_foldSum 44 = .ok (.iload_n 3, 1) := by decide +kernel
theorem dX8_foldSum_45 : decode cX8_foldSum 45 = .ok (.iaload, 1) := by decide +kernel
theorem dX8_foldSum_46 : decode cX8_foldSum 46 = .ok (.invokestatic 316, 3) := by decide +kernel
theorem dX8_foldSum_49 : decode cX8_foldSum 49 = .ok (.iconst 0, 1) := by decide +kernel
theorem dX8_foldSum_50 : decode cX8_foldSum 50 = .ok (.iconst 0, 1) := by decide +kernel
theorem dX8_foldSum_51 : decode cX8_foldSum 51 = .ok (.invokevirtual 293, 3) := by decide +kernel
theorem dX8_foldSum_54 : decode cX8_foldSum 54 = .ok (.ireturn, 1) := by decide +kernel
theorem dX8_foldSum_55 : decode cX8_foldSum 55 = .ok (.iload_n 1, 1) := by decide +kernel
theorem dX8_foldSum_56 : decode cX8_foldSum 56 = .ok (.bipush 43, 2) := by decide +kernel
theorem dX8_foldSum_58 : decode cX8_foldSum 58 = .ok (.if_icmp .eq 9, 3) := by decide +kernel
theorem dX8_foldSum_61 : decode cX8_foldSum 61 = .ok (.iload_n 1, 1) := by decide +kernel
theorem dX8_foldSum_62 : decode cX8_foldSum 62 = .ok (.bipush 45, 2) := by decide +kernel
theorem dX8_foldSum_64 : decode cX8_foldSum 64 = .ok (.if_icmp .ne 12, 3) := by decide +kernel
theorem dX8_foldSum_67 : decode cX8_foldSum 67 = .ok (.aload_n 0, 1) := by decide +kernel
theorem dX8_foldSum_68 : decode cX8_foldSum 68 = .ok (.iload_n 3, 1) := by decide +kernel
theorem dX8_foldSum_69 : decode cX8_foldSum 69 = .ok (.iconst 0, 1) := by decide +kernel
theorem dX8_foldSum_70 : decode cX8_foldSum 70 = .ok (.invokevirtual 319, 3) := by decide +kernel
theorem dX8_foldSum_73 : decode cX8_foldSum 73 = .ok (.ifCond .ne 24, 3) := by decide +kernel
theorem dX8_foldSum_76 : decode cX8_foldSum 76 = .ok (.iload_n 1, 1) := by decide +kernel
theorem dX8_foldSum_77 : decode cX8_foldSum 77 = .ok (.bipush 42, 2) := by decide +kernel
theorem dX8_foldSum_79 : decode cX8_foldSum 79 = .ok (.if_icmp .eq 9, 3) := by decide +kernel
theorem dX8_foldSum_82 : decode cX8_foldSum 82 = .ok (.iload_n 1, 1) := by decide +kernel
theorem dX8_foldSum_83 : decode cX8_foldSum 83 = .ok (.bipush 47, 2) := by decide +kernel
theorem dX8_foldSum_85 : decode cX8_foldSum 85 = .ok (.if_icmp .ne 14, 3) := by decide +kernel
theorem dX8_foldSum_88 : decode cX8_foldSum 88 = .ok (.aload_n 0, 1) := by decide +kernel
theorem dX8_foldSum_89 : decode cX8_foldSum 89 = .ok (.iload_n 3, 1) := by decide +kernel
theorem dX8_foldSum_90 : decode cX8_foldSum 90 = .ok (.iconst 1, 1) := by decide +kernel
theorem dX8_foldSum_91 : decode cX8_foldSum 91 = .ok (.invokevirtual 319, 3) := by decide +kernel
theorem dX8_foldSum_94 : decode cX8_foldSum 94 = .ok (.ifCond .eq 5, 3) := by decide +kernel
theorem dX8_foldSum_97 : decode cX8_foldSum 97 = .ok (.iload_n 2, 1) := by decide +kernel
theorem dX8_foldSum_98 : decode cX8_foldSum 98 = .ok (.ireturn, 1) := by decide +kernel
theorem dX8_foldSum_99 : decode cX8_foldSum 99 = .ok (.iload_n 1, 1) := by decide +kernel
theorem dX8_foldSum_100 : decode cX8_foldSum 100 = .ok (.bipush 43, 2) := by decide +kernel
theorem dX8_foldSum_102 : decode cX8_foldSum 102 = .ok (.if_icmp .ne 12, 3) := by decide +kernel
theorem dX8_foldSum_105 : decode cX8_foldSum 105 = .ok (.aload_n 0, 1) := by decide +kernel
theorem dX8_foldSum_106 : decode cX8_foldSum 106 = .ok (.iload_n 2, 1) := by decide +kernel
theorem dX8_foldSum_107 : decode cX8_foldSum 107 = .ok (.iconst 0, 1) := by decide +kernel
theorem dX8_foldSum_108 : decode cX8_foldSum 108 = .ok (.invokevirtual 319, 3) := by decide +kernel
theorem dX8_foldSum_111 : decode cX8_foldSum 111 = .ok (.ifCond .ne 18, 3) := by decide +kernel
theorem dX8_foldSum_114 : decode cX8_foldSum 114 = .ok (.iload_n 1, 1) := by decide +kernel
theorem dX8_foldSum_115 : decode cX8_foldSum 115 = .ok (.bipush 42, 2) := by decide +kernel
theorem dX8_foldSum_117 : decode cX8_foldSum 117 = .ok (.if_icmp .ne 14, 3) := by decide +kernel
theorem dX8_foldSum_120 : decode cX8_foldSum 120 = .ok (.aload_n 0, 1) := by decide +kernel
theorem dX8_foldSum_121 : decode cX8_foldSum 121 = .ok (.iload_n 2, 1) := by decide +kernel
theorem dX8_foldSum_122 : decode cX8_foldSum 122 = .ok (.iconst 1, 1) := by decide +kernel
theorem dX8_foldSum_123 : decode cX8_foldSum 123 = .ok (.invokevirtual 319, 3) := by decide +kernel
theorem dX8_foldSum_126 : decode cX8_foldSum 126 = .ok (.ifCond .eq 5, 3) := by decide +kernel
theorem dX8_foldSum_129 : decode cX8_foldSum 129 = .ok (.iload_n 3, 1) := by decide +kernel
theorem dX8_foldSum_130 : decode cX8_foldSum 130 = .ok (.ireturn, 1) := by decide +kernel
theorem dX8_foldSum_131 : decode cX8_foldSum 131 = .ok (.aload_n 0, 1) := by decide +kernel
theorem dX8_foldSum_132 : decode cX8_foldSum 132 = .ok (.iconst 3, 1) := by decide +kernel
theorem dX8_foldSum_133 : decode cX8_foldSum 133 = .ok (.iload_n 1, 1) := by decide +kernel
theorem dX8_foldSum_134 : decode cX8_foldSum 134 = .ok (.iload_n 2, 1) := by decide +kernel
theorem dX8_foldSum_135 : decode cX8_foldSum 135 = .ok (.iload_n 3, 1) := by decide +kernel
theorem dX8_foldSum_136 : decode cX8_foldSum 136 = .ok (.invokevirtual 293, 3) := by decide +kernel
theorem dX8_foldSum_139 : decode cX8_foldSum 139 = .ok (.ireturn, 1) := by decide +kernel
theorem dX8_compared_0 : decode cX8_compared 0 = .ok (.iload_n 0, 1) := by decide +kernel
theorem dX8_compared_1 : decode cX8_compared 1 = .ok (.bipush 60, 2) := by decide +kernel
theorem dX8_compared_3 : decode cX8_compared 3 = .ok (.if_icmp .ne 16, 3) := by decide +kernel
theorem dX8_compared_6 : decode cX8_compared 6 = .ok (.iload_n 1, 1) := by decide +kernel
theorem dX8_compared_7 : decode cX8_compared 7 = .ok (.iload_n 2, 1) := by decide +kernel
theorem dX8_compared_8 : decode cX8_compared 8 = .ok (.if_icmp .ge 7, 3) := by decide +kernel
theorem dX8_compared_11 : decode cX8_compared 11 = .ok (.iconst 1, 1) := by decide +kernel
theorem dX8_compared_12 : decode cX8_compared 12 = .ok (.goto 55, 3) := by decide +kernel
theorem dX8_compared_15 : decode cX8_compared 15 = .ok (.iconst 0, 1) := by decide +kernel
theorem dX8_compared_16 : decode cX8_compared 16 = .ok (.goto 51, 3) := by decide +kernel
theorem dX8_compared_19 : decode cX8_compared 19 = .ok (.iload_n 0, 1) := by decide +kernel
theorem dX8_compared_20 : decode cX8_compared 20 = .ok (.bipush 62, 2) := by decide +kernel
theorem dX8_compared_22 : decode cX8_compared 22 = .ok (.if_icmp .ne 16, 3) := by decide +kernel
theorem dX8_compared_25 : decode cX8_compared 25 = .ok (.iload_n 1, 1) := by decide +kernel
theorem dX8_compared_26 : decode cX8_compared 26 = .ok (.iload_n 2, 1) := by decide +kernel
theorem dX8_compared_27 : decode cX8_compared 27 = .ok (.if_icmp .le 7, 3) := by decide +kernel
theorem dX8_compared_30 : decode cX8_compared 30 = .ok (.iconst 1, 1) := by decide +kernel
theorem dX8_compared_31 : decode cX8_compared 31 = .ok (.goto 36, 3) := by decide +kernel
theorem dX8_compared_34 : decode cX8_compared 34 = .ok (.iconst 0, 1) := by decide +kernel
theorem dX8_compared_35 : decode cX8_compared 35 = .ok (.goto 32, 3) := by decide +kernel
theorem dX8_compared_38 : decode cX8_compared 38 = .ok (.iload_n 0, 1) := by decide +kernel
theorem dX8_compared_39 : decode cX8_compared 39 = .ok (.bipush 61, 2) := by decide +kernel
theorem dX8_compared_41 : decode cX8_compared 41 = .ok (.if_icmp .ne 16, 3) := by decide +kernel
theorem dX8_compared_44 : decode cX8_compared 44 = .ok (.iload_n 1, 1) := by decide +kernel
theorem dX8_compared_45 : decode cX8_compared 45 = .ok (.iload_n 2, 1) := by decide +kernel
theorem dX8_compared_46 : decode cX8_compared 46 = .ok (.if_icmp .ne 7, 3) := by decide +kernel
theorem dX8_compared_49 : decode cX8_compared 49 = .ok (.iconst 1, 1) := by decide +kernel
theorem dX8_compared_50 : decode cX8_compared 50 = .ok (.goto 17, 3) := by decide +kernel
theorem dX8_compared_53 : decode cX8_compared 53 = .ok (.iconst 0, 1) := by decide +kernel
theorem dX8_compared_54 : decode cX8_compared 54 = .ok (.goto 13, 3) := by decide +kernel
theorem dX8_compared_57 : decode cX8_compared 57 = .ok (.iload_n 1, 1) := by decide +kernel
theorem dX8_compared_58 : decode cX8_compared 58 = .ok (.iload_n 2, 1) := by decide +kernel
theorem dX8_compared_59 : decode cX8_compared 59 = .ok (.if_icmp .eq 7, 3) := by decide +kernel
theorem dX8_compared_62 : decode cX8_compared 62 = .ok (.iconst 1, 1) := by decide +kernel
theorem dX8_compared_63 : decode cX8_compared 63 = .ok (.goto 4, 3) := by decide +kernel
theorem dX8_compared_66 : decode cX8_compared 66 = .ok (.iconst 0, 1) := by decide +kernel
theorem dX8_compared_67 : decode cX8_compared 67 = .ok (.ireturn, 1) := by decide +kernel
theorem dX8_truth_0 : decode cX8_truth 0 = .ok (.aload_n 0, 1) := by decide +kernel
theorem dX8_truth_1 : decode cX8_truth 1 = .ok (.bipush 12, 2) := by decide +kernel
theorem dX8_truth_3 : decode cX8_truth 3 = .ok (.iload_n 1, 1) := by decide +kernel
theorem dX8_truth_4 : decode cX8_truth 4 = .ok (.ifCond .eq 7, 3) := by decide +kernel
theorem dX8_truth_7 : decode cX8_truth 7 = .ok (.iconst 1, 1) := by decide +kernel
theorem dX8_truth_8 : decode cX8_truth 8 = .ok (.goto 4, 3) := by decide +kernel
theorem dX8_truth_11 : decode cX8_truth 11 = .ok (.iconst 0, 1) := by decide +kernel
theorem dX8_truth_12 : decode cX8_truth 12 = .ok (.iconst 0, 1) := by decide +kernel
theorem dX8_truth_13 : decode cX8_truth 13 = .ok (.iconst 0, 1) := by decide +kernel
theorem dX8_truth_14 : decode cX8_truth 14 = .ok (.invokevirtual 293, 3) := by decide +kernel
theorem dX8_truth_17 : decode cX8_truth 17 = .ok (.ireturn, 1) := by decide +kernel
theorem dX8_isTruth_0 : decode cX8_isTruth 0 = .ok (.aload_n 0, 1) := by decide +kernel
theorem dX8_isTruth_1 : decode cX8_isTruth 1 = .ok (.getfield 76, 3) := by decide +kernel
theorem dX8_isTruth_4 : decode cX8_isTruth 4 = .ok (.iload_n 1, 1) := by decide +kernel
theorem dX8_isTruth_5 : decode cX8_isTruth 5 = .ok (.iaload, 1) := by decide +kernel
theorem dX8_isTruth_6 : decode cX8_isTruth 6 = .ok (.bipush 12, 2) := by decide +kernel
theorem dX8_isTruth_8 : decode cX8_isTruth 8 = .ok (.if_icmp .ne 17, 3) := by decide +kernel
theorem dX8_isTruth_11 : decode cX8_isTruth 11 = .ok (.aload_n 0, 1) := by decide +kernel
theorem dX8_isTruth_12 : decode cX8_isTruth 12 = .ok (.getfield 79, 3) := by decide +kernel
theorem dX8_isTruth_15 : decode cX8_isTruth 15 = .ok (.iload_n 1, 1) := by decide +kernel
theorem dX8_isTruth_16 : decode cX8_isTruth 16 = .ok (.iaload, 1) := by decide +kernel
theorem dX8_isTruth_17 : decode cX8_isTruth 17 = .ok (.iload_n 2, 1) := by decide +kernel
theorem dX8_isTruth_18 : decode cX8_isTruth 18 = .ok (.if_icmp .ne 7, 3) := by decide +kernel
theorem dX8_isTruth_21 : decode cX8_isTruth 21 = .ok (.iconst 1, 1) := by decide +kernel
theorem dX8_isTruth_22 : decode cX8_isTruth 22 = .ok (.goto 4, 3) := by decide +kernel
theorem dX8_isTruth_25 : decode cX8_isTruth 25 = .ok (.iconst 0, 1) := by decide +kernel
theorem dX8_isTruth_26 : decode cX8_isTruth 26 = .ok (.ireturn, 1) := by decide +kernel
theorem dX8_foldComparison_0 : decode cX8_foldComparison 0 = .ok (.aload_n 0, 1) := by decide +kernel
theorem dX8_foldComparison_1 : decode cX8_foldComparison 1 = .ok (.getfield 76, 3) := by decide +kernel
theorem dX8_foldComparison_4 : decode cX8_foldComparison 4 = .ok (.iload_n 2, 1) := by decide +kernel
theorem dX8_foldComparison_5 : decode cX8_foldComparison 5 = .ok (.iaload, 1) := by decide +kernel
theorem dX8_foldComparison_6 : decode cX8_foldComparison 6 = .ok (.ifCond .ne 33, 3) := by decide +kernel
theorem dX8_foldComparison_9 : decode cX8_foldComparison 9 = .ok (.aload_n 0, 1) := by decide +kernel
theorem dX8_foldComparison_10 : decode cX8_foldComparison 10 = .ok (.getfield 76, 3) := by decide +kernel
theorem dX8_foldComparison_13 : decode cX8_foldComparison 13 = .ok (.iload_n 3, 1) := by decide +kernel
theorem dX8_foldComparison_14 : decode cX8_foldComparison 14 = .ok (.iaload, 1) := by decide +kernel
theorem dX8_foldComparison_15 : decode cX8_foldComparison 15 = .ok (.ifCond .ne 24, 3) := by decide +kernel
theorem dX8_foldComparison_18 : decode cX8_foldComparison 18 = .ok (.aload_n 0, 1) := by decide +kernel
theorem dX8_foldComparison_19 : decode cX8_foldComparison 19 = .ok (.iload_n 1, 1) := by decide +kernel
theorem dX8_foldComparison_20 : decode cX8_foldComparison 20 = .ok (.aload_n 0, 1) := by decide +kernel
theorem dX8_foldComparison_21 : decode cX8_foldComparison 21 = .ok (.getfield 79, 3) := by decide +kernel
theorem dX8_foldComparison_24 : decode cX8_foldComparison 24 = .ok (.iload_n 2, 1) := by decide +kernel
theorem dX8_foldComparison_25 : decode cX8_foldComparison 25 = .ok (.iaload, 1) := by decide +kernel
theorem dX8_foldComparison_26 : decode cX8_foldComparison 26 = .ok (.aload_n 0, 1) := by decide +kernel
theorem dX8_foldComparison_27 : decode cX8_foldComparison 27 = .ok (.getfield 79, 3) := by decide +kernel
theorem dX8_foldComparison_30 : decode cX8_foldComparison 30 = .ok (.iload_n 3, 1) := by decide +kernel
theorem dX8_foldComparison_31 : decode cX8_foldComparison 31 = .ok (.iaload, 1) := by decide +kernel
theorem dX8_foldComparison_32 : decode cX8_foldComparison 32 = .ok (.invokestatic 322, 3) := by decide +kernel
theorem dX8_foldComparison_35 : decode cX8_foldComparison 35 = .ok (.invokevirtual 326, 3) := by decide +kernel
theorem dX8_foldComparison_38 : decode cX8_foldComparison 38 = .ok (.ireturn, 1) := by decide +kernel
theorem dX8_foldComparison_39 : decode cX8_foldComparison 39 = .ok (.aload_n 0, 1) := by decide +kernel
theorem dX8_foldComparison_40 : decode cX8_foldComparison 40 = .ok (.iconst 4, 1) := by decide +kernel
theorem dX8_foldComparison_41 : decode cX8_foldComparison 41 = .ok (.iload_n 1, 1) := by decide +kernel
theorem dX8_foldComparison_42 : decode cX8_foldComparison 42 = .ok (.iload_n 2, 1) := by decide +kernel
theorem dX8_foldComparison_43 : decode cX8_foldComparison 43 = .ok (.iload_n 3, 1) := by decide +kernel
theorem dX8_foldComparison_44 : decode cX8_foldComparison 44 = .ok (.invokevirtual 293, 3) := by decide +kernel
theorem dX8_foldComparison_47 : decode cX8_foldComparison 47 = .ok (.ireturn, 1) := by decide +kernel
theorem dX8_foldBoth_0 : decode cX8_foldBoth 0 = .ok (.iload_n 1, 1) := by decide +kernel
theorem dX8_foldBoth_1 : decode cX8_foldBoth 1 = .ok (.bipush 38, 2) := by decide +kernel
theorem dX8_foldBoth_3 : decode cX8_foldBoth 3 = .ok (.if_icmp .ne 7, 3) := by decide +kernel
theorem dX8_foldBoth_6 : decode cX8_foldBoth 6 = .ok (.iconst 1, 1) := by decide +kernel
theorem dX8_foldBoth_7 : decode cX8_foldBoth 7 = .ok (.goto 4, 3) := by decide +kernel
theorem dX8_foldBoth_10 : decode cX8_foldBoth 10 = .ok (.iconst 0, 1) := by decide +kernel
theorem dX8_foldBoth_11 : decode cX8_foldBoth 11 = .ok (.istore 4, 2) := by decide +kernel
theorem dX8_foldBoth_13 : decode cX8_foldBoth 13 = .ok (.aload_n 0, 1) := by decide +kernel
theorem dX8_foldBoth_14 : decode cX8_foldBoth 14 = .ok (.iload_n 2, 1) := by decide +kernel
theorem dX8_foldBoth_15 : decode cX8_foldBoth 15 = .ok (.iload 4, 2) := by decide +kernel
theorem dX8_foldBoth_17 : decode cX8_foldBoth 17 = .ok (.invokevirtual 329, 3) := by decide +kernel
theorem dX8_foldBoth_20 : decode cX8_foldBoth 20 = .ok (.ifCond .eq 5, 3) := by decide +kernel
theorem dX8_foldBoth_23 : decode cX8_foldBoth 23 = .ok (.iload_n 3, 1) := by decide +kernel
theorem dX8_foldBoth_24 : decode cX8_foldBoth 24 = .ok (.ireturn, 1) := by decide +kernel
theorem dX8_foldBoth_25 : decode cX8_foldBoth 25 = .ok (.aload_n 0, 1) := by decide +kernel
theorem dX8_foldBoth_26 : decode cX8_foldBoth 26 = .ok (.iload_n 2, 1) := by decide +kernel
theorem dX8_foldBoth_27 : decode cX8_foldBoth 27 = .ok (.iconst 1, 1) := by decide +kernel
theorem dX8_foldBoth_28 : decode cX8_foldBoth 28 = .ok (.iload 4, 2) := by decide +kernel
theorem dX8_foldBoth_30 : decode cX8_foldBoth 30 = .ok (.isub, 1) := by decide +kernel
theorem dX8_foldBoth_31 : decode cX8_foldBoth 31 = .ok (.invokevirtual 329, 3) := by decide +kernel
theorem dX8_foldBoth_34 : decode cX8_foldBoth 34 = .ok (.ifCond .ne 13, 3) := by decide +kernel
theorem dX8_foldBoth_37 : decode cX8_foldBoth 37 = .ok (.aload_n 0, 1) := by decide +kernel
theorem dX8_foldBoth_38 : decode cX8_foldBoth 38 = .ok (.iload_n 3, 1) := by decide +kernel
theorem dX8_foldBoth_39 : decode cX8_foldBoth 39 = .ok (.iload 4, 2) := by decide +kernel
theorem dX8_foldBoth_41 : decode cX8_foldBoth 41 = .ok (.invokevirtual 329, 3) := by decide +kernel
theorem dX8_foldBoth_44 : decode cX8_foldBoth 44 = .ok (.ifCond .eq 5, 3) := by decide +kernel
theorem dX8_foldBoth_47 : decode cX8_foldBoth 47 = .ok (.iload_n 2, 1) := by decide +kernel
theorem dX8_foldBoth_48 : decode cX8_foldBoth 48 = .ok (.ireturn, 1) := by decide +kernel
theorem dX8_foldBoth_49 : decode cX8_foldBoth 49 = .ok (.aload_n 0, 1) := by decide +kernel
theorem dX8_foldBoth_50 : decode cX8_foldBoth 50 = .ok (.iconst 5, 1) := by decide +kernel
theorem dX8_foldBoth_51 : decode cX8_foldBoth 51 = .ok (.iload_n 1, 1) := by decide +kernel
theorem dX8_foldBoth_52 : decode cX8_foldBoth 52 = .ok (.iload_n 2, 1) := by decide +kernel
theorem dX8_foldBoth_53 : decode cX8_foldBoth 53 = .ok (.iload_n 3, 1) := by decide +kernel
theorem dX8_foldBoth_54 : decode cX8_foldBoth 54 = .ok (.invokevirtual 293, 3) := by decide +kernel
theorem dX8_foldBoth_57 : decode cX8_foldBoth 57 = .ok (.ireturn, 1) := by decide +kernel
theorem dX8_foldStatement_0 : decode cX8_foldStatement 0 = .ok (.aload_n 0, 1) := by decide +kernel
theorem dX8_foldStatement_1 : decode cX8_foldStatement 1 = .ok (.getfield 22, 3) := by decide +kernel
theorem dX8_foldStatement_4 : decode cX8_foldStatement 4 = .ok (.iload_n 1, 1) := by decide +kernel
theorem dX8_foldStatement_5 : decode cX8_foldStatement 5 = .ok (.iaload, 1) := by decide +kernel
theorem dX8_foldStatement_6 : decode cX8_foldStatement 6 = .ok (.bipush 6, 2) := by decide +kernel
theorem dX8_foldStatement_8 : decode cX8_foldStatement 8 = .ok (.if_icmp .ne 7, 3) := by decide +kernel
theorem dX8_foldStatement_11 : decode cX8_foldStatement 11 = .ok (.iconst (-1), 1) := by decide +kernel
theorem dX8_foldStatement_12 : decode cX8_foldStatement 12 = .ok (.goto 13, 3) := by decide +kernel
theorem dX8_foldStatement_15 : decode cX8_foldStatement 15 = .ok (.aload_n 0, 1) := by decide +kernel
theorem dX8_foldStatement_16 : decode cX8_foldStatement 16 = .ok (.aload_n 0, 1) := by decide +kernel
theorem dX8_foldStatement_17 : decode cX8_foldStatement 17 = .ok (.getfield 25, 3) := by decide +kernel
theorem dX8_foldStatement_20 : decode cX8_foldStatement 20 = .ok (.iload_n 1, 1) := by decide +kernel
theorem dX8_foldStatement_21 : decode cX8_foldStatement 21 = .ok (.iaload, 1) := by decide +kernel
theorem dX8_foldStatement_22 : decode cX8_foldStatement 22 = .ok (.invokevirtual 290, 3) := by decide +kernel
theorem dX8_foldStatement_25 : decode cX8_foldStatement 25 = .ok (.istore_n 2, 1) := by decide +kernel
theorem dX8_foldStatement_26 : decode cX8_foldStatement 26 = .ok (.aload_n 0, 1) := by decide +kernel
theorem dX8_foldStatement_27 : decode cX8_foldStatement 27 = .ok (.aload_n 0, 1) := by decide +kernel
theorem dX8_foldStatement_28 : decode cX8_foldStatement 28 = .ok (.getfield 28, 3) := by decide +kernel
theorem dX8_foldStatement_31 : decode cX8_foldStatement 31 = .ok (.iload_n 1, 1) := by decide +kernel
theorem dX8_foldStatement_32 : decode cX8_foldStatement 32 = .ok (.iaload, 1) := by decide +kernel
theorem dX8_foldStatement_33 : decode cX8_foldStatement 33 = .ok (.invokevirtual 290, 3) := by decide +kernel
theorem dX8_foldStatement_36 : decode cX8_foldStatement 36 = .ok (.istore_n 3, 1) := by decide +kernel
theorem dX8_foldStatement_37 : decode cX8_foldStatement 37 = .ok (.aload_n 0, 1) := by decide +kernel
theorem dX8_foldStatement_38 : decode cX8_foldStatement 38 = .ok (.getfield 22, 3) := by decide +kernel
theorem dX8_foldStatement_41 : decode cX8_foldStatement 41 = .ok (.iload_n 1, 1) := by decide +kernel
theorem dX8_foldStatement_42 : decode cX8_foldStatement 42 = .ok (.iaload, 1) := by decide +kernel
theorem dX8_foldStatement_43 : decode cX8_foldStatement 43 = .ok (.tableswitch 188 6 9 #[29, 75, 134, 161], 29) := by decide +kernel
theorem dX8_foldStatement_72 : decode cX8_foldStatement 72 = .ok (.aload_n 0, 1) := by decide +kernel
theorem dX8_foldStatement_73 : decode cX8_foldStatement 73 = .ok (.getfield 76, 3) := by decide +kernel
theorem dX8_foldStatement_76 : decode cX8_foldStatement 76 = .ok (.iload_n 3, 1) := by decide +kernel
theorem dX8_foldStatement_77 : decode cX8_foldStatement 77 = .ok (.iaload, 1) := by decide +kernel
theorem dX8_foldStatement_78 : decode cX8_foldStatement 78 = .ok (.iconst 2, 1) := by decide +kernel
theorem dX8_foldStatement_79 : decode cX8_foldStatement 79 = .ok (.if_icmp .ne 20, 3) := by decide +kernel
theorem dX8_foldStatement_82 : decode cX8_foldStatement 82 = .ok (.aload_n 0, 1) := by decide +kernel
theorem dX8_foldStatement_83 : decode cX8_foldStatement 83 = .ok (.getfield 79, 3) := by decide +kernel
theorem dX8_foldStatement_86 : decode cX8_foldStatement 86 = .ok (.iload_n 3, 1) := by decide +kernel
theorem dX8_foldStatement_87 : decode cX8_foldStatement 87 = .ok (.iaload, 1) := by decide +kernel
theorem dX8_foldStatement_88 : decode cX8_foldStatement 88 = .ok (.aload_n 0, 1) := by decide +kernel
theorem dX8_foldStatement_89 : decode cX8_foldStatement 89 = .ok (.getfield 25, 3) := by decide +kernel
theorem dX8_foldStatement_92 : decode cX8_foldStatement 92 = .ok (.iload_n 1, 1) := by decide +kernel
theorem dX8_foldStatement_93 : decode cX8_foldStatement 93 = .ok (.iaload, 1) := by decide +kernel
theorem dX8_foldStatement_94 : decode cX8_foldStatement 94 = .ok (.if_icmp .ne 5, 3) := by decide +kernel
theorem dX8_foldStatement_97 : decode cX8_foldStatement 97 = .ok (.iconst (-1), 1) := by decide +kernel
theorem dX8_foldStatement_98 : decode cX8_foldStatement 98 = .ok (.ireturn, 1) := by decide +kernel
theorem dX8_foldStatement_99 : decode cX8_foldStatement 99 = .ok (.aload_n 0, 1) := by decide +kernel
theorem dX8_foldStatement_100 : decode cX8_foldStatement 100 = .ok (.aload_n 0, 1) := by decide +kernel
theorem dX8_foldStatement_101 : decode cX8_foldStatement 101 = .ok (.bipush 6, 2) := by decide +kernel
theorem dX8_foldStatement_103 : decode cX8_foldStatement 103 = .ok (.aload_n 0, 1) := by decide +kernel
theorem dX8_foldStatement_104 : decode cX8_foldStatement 104 = .ok (.getfield 25, 3) := by decide +kernel
theorem dX8_foldStatement_107 : decode cX8_foldStatement 107 = .ok (.iload_n 1, 1) := by decide +kernel
theorem dX8_foldStatement_108 : decode cX8_foldStatement 108 = .ok (.iaload, 1) := by decide +kernel
theorem dX8_foldStatement_109 : decode cX8_foldStatement 109 = .ok (.iload_n 3, 1) := by decide +kernel
theorem dX8_foldStatement_110 : decode cX8_foldStatement 110 = .ok (.iconst 0, 1) := by decide +kernel
theorem dX8_foldStatement_111 : decode cX8_foldStatement 111 = .ok (.invokevirtual 293, 3) := by decide +kernel
theorem dX8_foldStatement_114 : decode cX8_foldStatement 114 = .ok (.invokevirtual 332, 3) := by decide +kernel
theorem dX8_foldStatement_117 : decode cX8_foldStatement 117 = .ok (.ireturn, 1) := by decide +kernel
theorem dX8_foldStatement_118 : decode cX8_foldStatement 118 = .ok (.aload_n 0, 1) := by decide +kernel
theorem dX8_foldStatement_119 : decode cX8_foldStatement 119 = .ok (.getfield 76, 3) := by decide +kernel
theorem dX8_foldStatement_122 : decode cX8_foldStatement 122 = .ok (.iload_n 2, 1) := by decide +kernel
theorem dX8_foldStatement_123 : decode cX8_foldStatement 123 = .ok (.iaload, 1) := by decide +kernel
theorem dX8_foldStatement_124 : decode cX8_foldStatement 124 = .ok (.bipush 12, 2) := by decide +kernel
theorem dX8_foldStatement_126 : decode cX8_foldStatement 126 = .ok (.if_icmp .ne 28, 3) := by decide +kernel
theorem dX8_foldStatement_129 : decode cX8_foldStatement 129 = .ok (.aload_n 0, 1) := by decide +kernel
theorem dX8_foldStatement_130 : decode cX8_foldStatement 130 = .ok (.getfield 79, 3) := by decide +kernel
theorem dX8_foldStatement_133 : decode cX8_foldStatement 133 = .ok (.iload_n 2, 1) := by decide +kernel
theorem dX8_foldStatement_134 : decode cX8_foldStatement 134 = .ok (.iaload, 1) := by decide +kernel
theorem dX8_foldStatement_135 : decode cX8_foldStatement 135 = .ok (.iconst 1, 1) := by decide +kernel
theorem dX8_foldStatement_136 : decode cX8_foldStatement 136 = .ok (.if_icmp .ne 7, 3) := by decide +kernel
theorem dX8_foldStatement_139 : decode cX8_foldStatement 139 = .ok (.iload_n 3, 1) := by decide +kernel
theorem dX8_foldStatement_140 : decode cX8_foldStatement 140 = .ok (.goto 13, 3) := by decide +kernel
theorem dX8_foldStatement_143 : decode cX8_foldStatement 143 = .ok (.aload_n 0, 1) := by decide +kernel
theorem dX8_foldStatement_144 : decode cX8_foldStatement 144 = .ok (.aload_n 0, 1) := by decide +kernel
theorem dX8_foldStatement_145 : decode cX8_foldStatement 145 = .ok (.getfield 31, 3) := by decide +kernel
theorem dX8_foldStatement_148 : decode cX8_foldStatement 148 = .ok (.iload_n 1, 1) := by decide +kernel
theorem dX8_foldStatement_149 : decode cX8_foldStatement 149 = .ok (.iaload, 1) := by decide +kernel
theorem dX8_foldStatement_150 : decode cX8_foldStatement 150 = .ok (.invokevirtual 290, 3) := by decide +kernel
theorem dX8_foldStatement_153 : decode cX8_foldStatement 153 = .ok (.ireturn, 1) := by decide +kernel
theorem dX8_foldStatement_154 : decode cX8_foldStatement 154 = .ok (.aload_n 0, 1) := by decide +kernel
