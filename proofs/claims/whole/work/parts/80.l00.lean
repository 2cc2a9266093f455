abbrev cL_law : ByteArray := code
def yL_law : MethodName := ⟨"SyncTreeLaw", "law", "([I)Z"⟩
theorem dL_law_0 : decode cL_law 0 = .ok (.new 8, 3) := by decide +kernel
theorem dL_law_3 : decode cL_law 3 = .ok (.dup, 1) := by decide +kernel
theorem dL_law_4 : decode cL_law 4 = .ok (.invokespecial 99, 3) := by decide +kernel
theorem dL_law_7 : decode cL_law 7 = .ok (.astore_n 1, 1) := by decide +kernel
theorem dL_law_8 : decode cL_law 8 = .ok (.new 100, 3) := by decide +kernel
theorem dL_law_11 : decode cL_law 11 = .ok (.dup, 1) := by decide +kernel
theorem dL_law_12 : decode cL_law 12 = .ok (.invokespecial 102, 3) := by decide +kernel
theorem dL_law_15 : decode cL_law 15 = .ok (.astore_n 2, 1) := by decide +kernel
theorem dL_law_16 : decode cL_law 16 = .ok (.iconst 1, 1) := by decide +kernel
theorem dL_law_17 : decode cL_law 17 = .ok (.newarray .long, 2) := by decide +kernel
theorem dL_law_19 : decode cL_law 19 = .ok (.astore_n 3, 1) := by decide +kernel
theorem dL_law_20 : decode cL_law 20 = .ok (.iconst 0, 1) := by decide +kernel
theorem dL_law_21 : decode cL_law 21 = .ok (.istore 4, 2) := by decide +kernel
theorem dL_law_23 : decode cL_law 23 = .ok (.iload 4, 2) := by decide +kernel
theorem dL_law_25 : decode cL_law 25 = .ok (.aload_n 0, 1) := by decide +kernel
theorem dL_law_26 : decode cL_law 26 = .ok (.arraylength, 1) := by decide +kernel
theorem dL_law_27 : decode cL_law 27 = .ok (.bipush 6, 2) := by decide +kernel
theorem dL_law_29 : decode cL_law 29 = .ok (.isub, 1) := by decide +kernel
theorem dL_law_30 : decode cL_law 30 = .ok (.if_icmp .gt 2027, 3) := by decide +kernel
theorem dL_law_33 : decode cL_law 33 = .ok (.aload_n 0, 1) := by decide +kernel
theorem dL_law_34 : decode cL_law 34 = .ok (.iload 4, 2) := by decide +kernel
theorem dL_law_36 : decode cL_law 36 = .ok (.iaload, 1) := by decide +kernel
theorem dL_law_37 : decode cL_law 37 = .ok (.bipush 63, 2) := by decide +kernel
theorem dL_law_39 : decode cL_law 39 = .ok (.iand, 1) := by decide +kernel
theorem dL_law_40 : decode cL_law 40 = .ok (.tableswitch 2011 0 34 #[156, 193, 266, 303, 347, 391, 435, 479, 523, 567, 611, 655, 711, 791, 883, 951, 1019, 1098, 1182, 1250, 1318, 1374, 1442, 1498, 1554, 1598, 1642, 1698, 1754, 1779, 1823, 1860, 1917, 1961, 1986], 156) := by decide +kernel
theorem dL_law_196 : decode cL_law 196 = .ok (.aload_n 1, 1) := by decide +kernel
theorem dL_law_197 : decode cL_law 197 = .ok (.aload_n 0, 1) := by decide +kernel
theorem dL_law_198 : decode cL_law 198 = .ok (.iload 4, 2) := by decide +kernel
theorem dL_law_200 : decode cL_law 200 = .ok (.iconst 1, 1) := by decide +kernel
theorem dL_law_201 : decode cL_law 201 = .ok (.iadd, 1) := by decide +kernel
theorem dL_law_202 : decode cL_law 202 = .ok (.iaload, 1) := by decide +kernel
theorem dL_law_203 : decode cL_law 203 = .ok (.aload_n 0, 1) := by decide +kernel
theorem dL_law_204 : decode cL_law 204 = .ok (.iload 4, 2) := by decide +kernel
theorem dL_law_206 : decode cL_law 206 = .ok (.iconst 2, 1) := by decide +kernel
theorem dL_law_207 : decode cL_law 207 = .ok (.iadd, 1) := by decide +kernel
theorem dL_law_208 : decode cL_law 208 = .ok (.iaload, 1) := by decide +kernel
theorem dL_law_209 : decode cL_law 209 = .ok (.invokevirtual 103, 3) := by decide +kernel
theorem dL_law_212 : decode cL_law 212 = .ok (.aload_n 2, 1) := by decide +kernel
theorem dL_law_213 : decode cL_law 213 = .ok (.aload_n 0, 1) := by decide +kernel
theorem dL_law_214 : decode cL_law 214 = .ok (.iload 4, 2) := by decide +kernel
theorem dL_law_216 : decode cL_law 216 = .ok (.iconst 1, 1) := by decide +kernel
theorem dL_law_217 : decode cL_law 217 = .ok (.iadd, 1) := by decide +kernel
theorem dL_law_218 : decode cL_law 218 = .ok (.iaload, 1) := by decide +kernel
theorem dL_law_219 : decode cL_law 219 = .ok (.aload_n 0, 1) := by decide +kernel
theorem dL_law_220 : decode cL_law 220 = .ok (.iload 4, 2) := by decide +kernel
theorem dL_law_222 : decode cL_law 222 = .ok (.iconst 2, 1) := by decide +kernel
theorem dL_law_223 : decode cL_law 223 = .ok (.iadd, 1) := by decide +kernel
theorem dL_law_224 : decode cL_law 224 = .ok (.iaload, 1) := by decide +kernel
theorem dL_law_225 : decode cL_law 225 = .ok (.invokevirtual 106, 3) := by decide +kernel
theorem dL_law_228 : decode cL_law 228 = .ok (.if_icmp .eq 1823, 3) := by decide +kernel
theorem dL_law_231 : decode cL_law 231 = .ok (.iconst 0, 1) := by decide +kernel
theorem dL_law_232 : decode cL_law 232 = .ok (.ireturn, 1) := by decide +kernel
theorem dL_law_233 : decode cL_law 233 = .ok (.aload_n 1, 1) := by decide +kernel
theorem dL_law_234 : decode cL_law 234 = .ok (.aload_n 0, 1) := by decide +kernel
theorem dL_law_235 : decode cL_law 235 = .ok (.iload 4, 2) := by decide +kernel
theorem dL_law_237 : decode cL_law 237 = .ok (.iconst 1, 1) := by decide +kernel
theorem dL_law_238 : decode cL_law 238 = .ok (.iadd, 1) := by decide +kernel
theorem dL_law_239 : decode cL_law 239 = .ok (.iaload, 1) := by decide +kernel
theorem dL_law_240 : decode cL_law 240 = .ok (.aload_n 0, 1) := by decide +kernel
theorem dL_law_241 : decode cL_law 241 = .ok (.iload 4, 2) := by decide +kernel
theorem dL_law_243 : decode cL_law 243 = .ok (.iconst 2, 1) := by decide +kernel
theorem dL_law_244 : decode cL_law 244 = .ok (.iadd, 1) := by decide +kernel
theorem dL_law_245 : decode cL_law 245 = .ok (.iaload, 1) := by decide +kernel
theorem dL_law_246 : decode cL_law 246 = .ok (.aload_n 0, 1) := by decide +kernel
theorem dL_law_247 : decode cL_law 247 = .ok (.iload 4, 2) := by decide +kernel
theorem dL_law_249 : decode cL_law 249 = .ok (.iconst 3, 1) := by decide +kernel
theorem dL_law_250 : decode cL_law 250 = .ok (.iadd, 1) := by decide +kernel
theorem dL_law_251 : decode cL_law 251 = .ok (.iaload, 1) := by decide +kernel
theorem dL_law_252 : decode cL_law 252 = .ok (.aload_n 0, 1) := by decide +kernel
theorem dL_law_253 : decode cL_law 253 = .ok (.iload 4, 2) := by decide +kernel
theorem dL_law_255 : decode cL_law 255 = .ok (.iconst 4, 1) := by decide +kernel
theorem dL_law_256 : decode cL_law 256 = .ok (.iadd, 1) := by decide +kernel
theorem dL_law_257 : decode cL_law 257 = .ok (.iaload, 1) := by decide +kernel
theorem dL_law_258 : decode cL_law 258 = .ok (.aload_n 0, 1) := by decide +kernel
theorem dL_law_259 : decode cL_law 259 = .ok (.iload 4, 2) := by decide +kernel
theorem dL_law_261 : decode cL_law 261 = .ok (.iconst 5, 1) := by decide +kernel
theorem dL_law_262 : decode cL_law 262 = .ok (.iadd, 1) := by decide +kernel
theorem dL_law_263 : decode cL_law 263 = .ok (.iaload, 1) := by decide +kernel
theorem dL_law_264 : decode cL_law 264 = .ok (.invokevirtual 107, 3) := by decide +kernel
theorem dL_law_267 : decode cL_law 267 = .ok (.aload_n 2, 1) := by decide +kernel
theorem dL_law_268 : decode cL_law 268 = .ok (.aload_n 0, 1) := by decide +kernel
theorem dL_law_269 : decode cL_law 269 = .ok (.iload 4, 2) := by decide +kernel
theorem dL_law_271 : decode cL_law 271 = .ok (.iconst 1, 1) := by decide +kernel
theorem dL_law_272 : decode cL_law 272 = .ok (.iadd, 1) := by decide +kernel
theorem dL_law_273 : decode cL_law 273 = .ok (.iaload, 1) := by decide +kernel
theorem dL_law_274 : decode cL_law 274 = .ok (.aload_n 0, 1) := by decide +kernel
theorem dL_law_275 : decode cL_law 275 = .ok (.iload 4, 2) := by decide +kernel
theorem dL_law_277 : decode cL_law 277 = .ok (.iconst 2, 1) := by decide +kernel
theorem dL_law_278 : decode cL_law 278 = .ok (.iadd, 1) := by decide +kernel
theorem dL_law_279 : decode cL_law 279 = .ok (.iaload, 1) := by decide +kernel
theorem dL_law_280 : decode cL_law 280 = .ok (.aload_n 0, 1) := by decide +kernel
theorem dL_law_281 : decode cL_law 281 = .ok (.iload 4, 2) := by decide +kernel
theorem dL_law_283 : decode cL_law 283 = .ok (.iconst 3, 1) := by decide +kernel
theorem dL_law_284 : decode cL_law 284 = .ok (.iadd, 1) := by decide +kernel
theorem dL_law_285 : decode cL_law 285 = .ok (.iaload, 1) := by decide +kernel
theorem dL_law_286 : decode cL_law 286 = .ok (.aload_n 0, 1) := by decide +kernel
theorem dL_law_287 : decode cL_law 287 = .ok (.iload 4, 2) := by decide +kernel
theorem dL_law_289 : decode cL_law 289 = .ok (.iconst 4, 1) := by decide +kernel
theorem dL_law_290 : decode cL_law 290 = .ok (.iadd, 1) := by decide +kernel
theorem dL_law_291 : decode cL_law 291 = .ok (.iaload, 1) := by decide +kernel
theorem dL_law_292 : decode cL_law 292 = .ok (.aload_n 0, 1) := by decide +kernel
theorem dL_law_293 : decode cL_law 293 = .ok (.iload 4, 2) := by decide +kernel
theorem dL_law_295 : decode cL_law 295 = .ok (.iconst 5, 1) := by decide +kernel
theorem dL_law_296 : decode cL_law 296 = .ok (.iadd, 1) := by decide +kernel
theorem dL_law_297 : decode cL_law 297 = .ok (.iaload, 1) := by decide +kernel
theorem dL_law_298 : decode cL_law 298 = .ok (.invokevirtual 111, 3) := by decide +kernel
theorem dL_law_301 : decode cL_law 301 = .ok (.if_icmp .eq 1750, 3) := by decide +kernel
theorem dL_law_304 : decode cL_law 304 = .ok (.iconst 0, 1) := by decide +kernel
theorem dL_law_305 : decode cL_law 305 = .ok (.ireturn, 1) := by decide +kernel
theorem dL_law_306 : decode cL_law 306 = .ok (.aload_n 1, 1) := by decide +kernel
theorem dL_law_307 : decode cL_law 307 = .ok (.aload_n 0, 1) := by decide +kernel
theorem dL_law_308 : decode cL_law 308 = .ok (.iload 4, 2) := by decide +kernel
theorem dL_law_310 : decode cL_law 310 = .ok (.iconst 1, 1) := by decide +kernel
theorem dL_law_311 : decode cL_law 311 = .ok (.iadd, 1) := by decide +kernel
theorem dL_law_312 : decode cL_law 312 = .ok (.iaload, 1) := by decide +kernel
theorem dL_law_313 : decode cL_law 313 = .ok (.aload_n 0, 1) := by decide +kernel
theorem dL_law_314 : decode cL_law 314 = .ok (.iload 4, 2) := by decide +kernel
theorem dL_law_316 : decode cL_law 316 = .ok (.iconst 2, 1) := by decide +kernel
theorem dL_law_317 : decode cL_law 317 = .ok (.iadd, 1) := by decide +kernel
theorem dL_law_318 : decode cL_law 318 = .ok (.iaload, 1) := by decide +kernel
theorem dL_law_319 : decode cL_law 319 = .ok (.invokevirtual 112, 3) := by decide +kernel
theorem dL_law_322 : decode cL_law 322 = .ok (.aload_n 2, 1) := by decide +kernel
theorem dL_law_323 : decode cL_law 323 = .ok (.aload_n 0, 1) := by decide +kernel
theorem dL_law_324 : decode cL_law 324 = .ok (.iload 4, 2) := by decide +kernel
theorem dL_law_326 : decode cL_law 326 = .ok (.iconst 1, 1) := by decide +kernel
theorem dL_law_327 : decode cL_law 327 = .ok (.iadd, 1) := by decide +kernel
theorem dL_law_328 : decode cL_law 328 = .ok (.iaload, 1) := by decide +kernel
theorem dL_law_329 : decode cL_law 329 = .ok (.aload_n 0, 1) := by decide +kernel
theorem dL_law_330 : decode cL_law 330 = .ok (.iload 4, 2) := by decide +kernel
theorem dL_law_332 : decode cL_law 332 = .ok (.iconst 2, 1) := by decide +kernel
theorem dL_law_333 : decode cL_law 333 = .ok (.iadd, 1) := by decide +kernel
theorem dL_law_334 : decode cL_law 334 = .ok (.iaload, 1) := by decide +kernel
theorem dL_law_335 : decode cL_law 335 = .ok (.invokevirtual 115, 3) := by decide +kernel
theorem dL_law_338 : decode cL_law 338 = .ok (.if_icmp .eq 1713, 3) := by decide +kernel
theorem dL_law_341 : decode cL_law 341 = .ok (.iconst 0, 1) := by decide +kernel
theorem dL_law_342 : decode cL_law 342 = .ok (.ireturn, 1) := by decide +kernel
theorem dL_law_343 : decode cL_law 343 = .ok (.aload_n 1, 1) := by decide +kernel
theorem dL_law_344 : decode cL_law 344 = .ok (.aload_n 3, 1) := by decide +kernel
theorem dL_law_345 : decode cL_law 345 = .ok (.invokestatic 116, 3) := by decide +kernel
theorem dL_law_348 : decode cL_law 348 = .ok (.istore 5, 2) := by decide +kernel
theorem dL_law_350 : decode cL_law 350 = .ok (.aload_n 2, 1) := by decide +kernel
theorem dL_law_351 : decode cL_law 351 = .ok (.invokevirtual 121, 3) := by decide +kernel
theorem dL_law_354 : decode cL_law 354 = .ok (.istore 6, 2) := by decide +kernel
theorem dL_law_356 : decode cL_law 356 = .ok (.aload_n 2, 1) := by decide +kernel
theorem dL_law_357 : decode cL_law 357 = .ok (.invokevirtual 122, 3) := by decide +kernel
theorem dL_law_360 : decode cL_law 360 = .ok (.iload 5, 2) := by decide +kernel
theorem dL_law_362 : decode cL_law 362 = .ok (.if_icmp .eq 5, 3) := by decide +kernel
theorem dL_law_365 : decode cL_law 365 = .ok (.iconst 0, 1) := by decide +kernel
theorem dL_law_366 : decode cL_law 366 = .ok (.ireturn, 1) := by decide +kernel
theorem dL_law_367 : decode cL_law 367 = .ok (.iload 5, 2) := by decide +kernel
theorem dL_law_369 : decode cL_law 369 = .ok (.ifCond .ne 15, 3) := by decide +kernel
theorem dL_law_372 : decode cL_law 372 = .ok (.aload_n 3, 1) := by decide +kernel
theorem dL_law_373 : decode cL_law 373 = .ok (.iconst 0, 1) := by decide +kernel
theorem dL_law_374 : decode cL_law 374 = .ok (.laload, 1) := by decide +kernel
theorem dL_law_375 : decode cL_law 375 = .ok (.iload 6, 2) := by decide +kernel
theorem dL_law_377 : decode cL_law 377 = .ok (.i2l, 1) := by decide +kernel
theorem dL_law_378 : decode cL_law 378 = .ok (.lcmp, 1) := by decide +kernel
theorem dL_law_379 : decode cL_law 379 = .ok (.ifCond .eq 5, 3) := by decide +kernel
theorem dL_law_382 : decode cL_law 382 = .ok (.iconst 0, 1) := by decide +kernel
theorem dL_law_383 : decode cL_law 383 = .ok (.ireturn, 1) := by decide +kernel
theorem dL_law_384 : decode cL_law 384 = .ok (.goto 1667, 3) := by decide +kernel
theorem dL_law_387 : decode cL_law 387 = .ok (.aload_n 1, 1) := by decide +kernel
theorem dL_law_388 : decode cL_law 388 = .ok (.aload_n 3, 1) := by decide +kernel
theorem dL_law_389 : decode cL_law 389 = .ok (.invokestatic 125, 3) := by decide +kernel
theorem dL_law_392 : decode cL_law 392 = .ok (.istore 5, 2) := by decide +kernel
theorem dL_law_394 : decode cL_law 394 = .ok (.aload_n 2, 1) := by decide +kernel
theorem dL_law_395 : decode cL_law 395 = .ok (.invokevirtual 127, 3) := by decide +kernel
theorem dL_law_398 : decode cL_law 398 = .ok (.istore 6, 2) := by decide +kernel
theorem dL_law_400 : decode cL_law 400 = .ok (.aload_n 2, 1) := by decide +kernel
theorem dL_law_401 : decode cL_law 401 = .ok (.invokevirtual 122, 3) := by decide +kernel
theorem dL_law_404 : decode cL_law 404 = .ok (.iload 5, 2) := by decide +kernel
theorem dL_law_406 : decode cL_law 406 = .ok (.if_icmp .eq 5, 3) := by decide +kernel
theorem dL_law_409 : decode cL_law 409 = .ok (.iconst 0, 1) := by decide +kernel
theorem dL_law_410 : decode cL_law 410 = .ok (.ireturn, 1) := by decide +kernel
theorem dL_law_411 : decode cL_law 411 = .ok (.iload 5, 2) := by decide +kernel
theorem dL_law_413 : decode cL_law 413 = .ok (.ifCond .ne 15, 3) := by decide +kernel
theorem dL_law_416 : decode cL_law 416 = .ok (.aload_n 3, 1) := by decide +kernel
theorem dL_law_417 : decode cL_law 417 = .ok (.iconst 0, 1) := by decide +kernel
theorem dL_law_418 : decode cL_law 418 = .ok (.laload, 1) := by decide +kernel
theorem dL_law_419 : decode cL_law 419 = .ok (.iload 6, 2) := by decide +kernel
theorem dL_law_421 : decode cL_law 421 = .ok (.i2l, 1) := by decide +kernel
theorem dL_law_422 : decode cL_law 422 = .ok (.lcmp, 1) := by decide +kernel
theorem dL_law_423 : decode cL_law 423 = .ok (.ifCond .eq 5, 3) := by decide +kernel
theorem dL_law_426 : decode cL_law 426 = .ok (.iconst 0, 1) := by decide +kernel
theorem dL_law_427 : decode cL_law 427 = .ok (.ireturn, 1) := by decide +kernel
theorem dL_law_428 : decode cL_law 428 = .ok (.goto 1623, 3) := by decide +kernel
theorem dL_law_431 : decode cL_law 431 = .ok (.aload_n 1, 1) := by decide +kernel
theorem dL_law_432 : decode cL_law 432 = .ok (.aload_n 3, 1) := by decide +kernel
theorem dL_law_433 : decode cL_law 433 = .ok (.invokestatic 128, 3) := by decide +kernel
theorem dL_law_436 : decode cL_law 436 = .ok (.istore 5, 2) := by decide +kernel
theorem dL_law_438 : decode cL_law 438 = .ok (.aload_n 2, 1) := by decide +kernel
theorem dL_law_439 : decode cL_law 439 = .ok (.invokevirtual 130, 3) := by decide +kernel
theorem dL_law_442 : decode cL_law 442 = .ok (.istore 6, 2) := by decide +kernel
theorem dL_law_444 : decode cL_law 444 = .ok (.aload_n 2, 1) := by decide +kernel
theorem dL_law_445 : decode cL_law 445 = .ok (.invokevirtual 122, 3) := by decide +kernel
theorem dL_law_448 : decode cL_law 448 = .ok (.iload 5, 2) := by decide +kernel
theorem dL_law_450 : decode cL_law 450 = .ok (.if_icmp .eq 5, 3) := by decide +kernel
theorem dL_law_453 : decode cL_law 453 = .ok (.iconst 0, 1) := by decide +kernel
theorem dL_law_454 : decode cL_law 454 = .ok (.ireturn, 1) := by decide +kernel
theorem dL_law_455 : decode cL_law 455 = .ok (.iload 5, 2) := by decide +kernel
theorem dL_law_457 : decode cL_law 457 = .ok (.ifCond .ne 15, 3) := by decide +kernel
theorem dL_law_460 : decode cL_law 460 = .ok (.aload_n 3, 1) := by decide +kernel
theorem dL_law_461 : decode cL_law 461 = .ok (.iconst 0, 1) := by decide +kernel
theorem dL_law_462 : decode cL_law 462 = .ok (.laload, 1) := by decide +kernel
theorem dL_law_463 : decode cL_law 463 = .ok (.iload 6, 2) := by decide +kernel
theorem dL_law_465 : decode cL_law 465 = .ok (.i2l, 1) := by decide +kernel
theorem dL_law_466 : decode cL_law 466 = .ok (.lcmp, 1) := by decide +kernel
theorem dL_law_467 : decode cL_law 467 = .ok (.ifCond .eq 5, 3) := by decide +kernel
theorem dL_law_470 : decode cL_law 470 = .ok (.iconst 0, 1) := by decide +kernel
theorem dL_law_471 : decode cL_law 471 = .ok (.ireturn, 1) := by decide +kernel
theorem dL_law_472 : decode cL_law 472 = .ok (.goto 1579, 3) := by decide +kernel
theorem dL_law_475 : decode cL_law 475 = .ok (.aload_n 1, 1) := by decide +kernel
theorem dL_law_476 : decode cL_law 476 = .ok (.aload_n 3, 1) := by decide +kernel
theorem dL_law_477 : decode cL_law 477 = .ok (.invokestatic 131, 3) := by decide +kernel
theorem dL_law_480 : decode cL_law 480 = .ok (.istore 5, 2) := by decide +kernel
theorem dL_law_482 : decode cL_law 482 = .ok (.aload_n 2, 1) := by decide +kernel
theorem dL_law_483 : decode cL_law 483 = .ok (.invokevirtual 133, 3) := by decide +kernel
theorem dL_law_486 : decode cL_law 486 = .ok (.istore 6, 2) := by decide +kernel
theorem dL_law_488 : decode cL_law 488 = .ok (.aload_n 2, 1) := by decide +kernel
theorem dL_law_489 : decode cL_law 489 = .ok (.invokevirtual 122, 3) := by decide +kernel
theorem dL_law_492 : decode cL_law 492 = .ok (.iload 5, 2) := by decide +kernel
theorem dL_law_494 : decode cL_law 494 = .ok (.if_icmp .eq 5, 3) := by decide +kernel
theorem dL_law_497 : decode cL_law 497 = .ok (.iconst 0, 1) := by decide +kernel
theorem dL_law_498 : decode cL_law 498 = .ok (.ireturn, 1) := by decide +kernel
theorem dL_law_499 : decode cL_law 499 = .ok (.iload 5, 2) := by decide +kernel
theorem dL_law_501 : decode cL_law 501 = .ok (.ifCond .ne 15, 3) := by decide +kernel
theorem dL_law_504 : decode cL_law 504 = .ok (.aload_n 3, 1) := by decide +kernel
theorem dL_law_505 : decode cL_law 505 = .ok (.iconst 0, 1) := by decide +kernel
theorem dL_law_506 : decode cL_law 506 = .ok (.laload, 1) := by decide +kernel
theorem dL_law_507 : decode cL_law 507 = .ok (.iload 6, 2) := by decide +kernel
theorem dL_law_509 : decode cL_law 509 = .ok (.i2l, 1) := by decide +kernel
theorem dL_law_510 : decode cL_law 510 = .ok (.lcmp, 1) := by decide +kernel
theorem dL_law_511 : decode cL_law 511 = .ok (.ifCond .eq 5, 3) := by decide +kernel
theorem dL_law_514 : decode cL_law 514 = .ok (.iconst 0, 1) := by decide +kernel
theorem dL_law_515 : decode cL_law 515 = .ok (.ireturn, 1) := by decide +kernel
theorem dL_law_516 : decode cL_law 516 = .ok (.goto 1535, 3) := by decide +kernel
theorem dL_law_519 : decode cL_law 519 = .ok (.aload_n 1, 1) := by decide +kernel
theorem dL_law_520 : decode cL_law 520 = .ok (.aload_n 3, 1) := by decide +kernel
theorem dL_law_521 : decode cL_law 521 = .ok (.invokestatic 134, 3) := by decide +kernel
theorem dL_law_524 : decode cL_law 524 = .ok (.istore 5, 2) := by decide +kernel
theorem dL_law_526 : decode cL_law 526 = .ok (.aload_n 2, 1) := by decide +kernel
theorem dL_law_527 : decode cL_law 527 = .ok (.invokevirtual 136, 3) := by decide +kernel
theorem dL_law_530 : decode cL_law 530 = .ok (.istore 6, 2) := by decide +kernel
theorem dL_law_532 : decode cL_law 532 = .ok (.aload_n 2, 1) := by decide +kernel
theorem dL_law_533 : decode cL_law 533 = .ok (.invokevirtual 122, 3) := by decide +kernel
theorem dL_law_536 : decode cL_law 536 = .ok (.iload 5, 2) := by decide +kernel
theorem dL_law_538 : decode cL_law 538 = .ok (.if_icmp .eq 5, 3) := by decide +kernel
theorem dL_law_541 : decode cL_law 541 = .ok (.iconst 0, 1) := by decide +kernel
theorem dL_law_542 : decode cL_law 542 = .ok (.ireturn, 1) := by decide +kernel
theorem dL_law_543 : decode cL_law 543 = .ok (.iload 5, 2) := by decide +kernel
theorem dL_law_545 : decode cL_law 545 = .ok (.ifCond .ne 15, 3) := by decide +kernel
theorem dL_law_548 : decode cL_law 548 = .ok (.aload_n 3, 1) := by decide +kernel
theorem dL_law_549 : decode cL_law 549 = .ok (.iconst 0, 1) := by decide +kernel
theorem dL_law_550 : decode cL_law 550 = .ok (.laload, 1) := by decide +kernel
theorem dL_law_551 : decode cL_law 551 = .ok (.iload 6, 2) := by decide +kernel
theorem dL_law_553 : decode cL_law 553 = .ok (.i2l, 1) := by decide +kernel
theorem dL_law_554 : decode cL_law 554 = .ok (.lcmp, 1) := by decide +kernel
theorem dL_law_555 : decode cL_law 555 = .ok (.ifCond .eq 5, 3) := by decide +kernel
theorem dL_law_558 : decode cL_law 558 = .ok (.iconst 0, 1) := by decide +kernel
theorem dL_law_559 : decode cL_law 559 = .ok (.ireturn, 1) := by decide +kernel
theorem dL_law_560 : decode cL_law 560 = .ok (.goto 1491, 3) := by decide +kernel
theorem dL_law_563 : decode cL_law 563 = .ok (.aload_n 1, 1) := by decide +kernel
theorem dL_law_564 : decode cL_law 564 = .ok (.aload_n 3, 1) := by decide +kernel
theorem dL_law_565 : decode cL_law 565 = .ok (.invokestatic 137, 3) := by decide +kernel
theorem dL_law_568 : decode cL_law 568 = .ok (.istore 5, 2) := by decide +kernel
theorem dL_law_570 : decode cL_law 570 = .ok (.aload_n 2, 1) := by decide +kernel
theorem dL_law_571 : decode cL_law 571 = .ok (.invokevirtual 139, 3) := by decide +kernel
theorem dL_law_574 : decode cL_law 574 = .ok (.istore 6, 2) := by decide +kernel
theorem dL_law_576 : decode cL_law 576 = .ok (.aload_n 2, 1) := by decide +kernel
theorem dL_law_577 : decode cL_law 577 = .ok (.invokevirtual 122, 3) := by decide +kernel
theorem dL_law_580 : decode cL_law 580 = .ok (.iload 5, 2) := by decide +kernel
theorem dL_law_582 : decode cL_law 582 = .ok (.if_icmp .eq 5, 3) := by decide +kernel
theorem dL_law_585 : decode cL_law 585 = .ok (.iconst 0, 1) := by decide +kernel
theorem dL_law_586 : decode cL_law 586 = .ok (.ireturn, 1) := by decide +kernel
theorem dL_law_587 : decode cL_law 587 = .ok (.iload 5, 2) := by decide +kernel
theorem dL_law_589 : decode cL_law 589 = .ok (.ifCond .ne 15, 3) := by decide +kernel
theorem dL_law_592 : decode cL_law 592 = .ok (.aload_n 3, 1) := by decide +kernel
theorem dL_law_593 : decode cL_law 593 = .ok (.iconst 0, 1) := by decide +kernel
theorem dL_law_594 : decode cL_law 594 = .ok (.laload, 1) := by decide +kernel
theorem dL_law_595 : decode cL_law 595 = .ok (.iload 6, 2) := by decide +kernel
theorem dL_law_597 : decode cL_law 597 = .ok (.i2l, 1) := by decide +kernel
theorem dL_law_598 : decode cL_law 598 = .ok (.lcmp, 1) := by decide +kernel
theorem dL_law_599 : decode cL_law 599 = .ok (.ifCond .eq 5, 3) := by decide +kernel
theorem dL_law_602 : decode cL_law 602 = .ok (.iconst 0, 1) := by decide +kernel
theorem dL_law_603 : decode cL_law 603 = .ok (.ireturn, 1) := by decide +kernel
theorem dL_law_604 : decode cL_law 604 = .ok (.goto 1447, 3) := by decide +kernel
theorem dL_law_607 : decode cL_law 607 = .ok (.aload_n 1, 1) := by decide +kernel
theorem dL_law_608 : decode cL_law 608 = .ok (.aload_n 3, 1) := by decide +kernel
theorem dL_law_609 : decode cL_law 609 = .ok (.invokestatic 140, 3) := by decide +kernel
theorem dL_law_612 : decode cL_law 612 = .ok (.istore 5, 2) := by decide +kernel
theorem dL_law_614 : decode cL_law 614 = .ok (.aload_n 2, 1) := by decide +kernel
theorem dL_law_615 : decode cL_law 615 = .ok (.invokevirtual 142, 3) := by decide +kernel
theorem dL_law_618 : decode cL_law 618 = .ok (.istore 6, 2) := by decide +kernel
theorem dL_law_620 : decode cL_law 620 = .ok (.aload_n 2, 1) := by decide +kernel
theorem dL_law_621 : decode cL_law 621 = .ok (.invokevirtual 122, 3) := by decide +kernel
theorem dL_law_624 : decode cL_law 624 = .ok (.iload 5, 2) := by decide +kernel
theorem dL_law_626 : decode cL_law 626 = .ok (.if_icmp .eq 5, 3) := by decide +kernel
theorem dL_law_629 : decode cL_law 629 = .ok (.iconst 0, 1) := by decide +kernel
theorem dL_law_630 : decode cL_law 630 = .ok (.ireturn, 1) := by decide +kernel
theorem dL_law_631 : decode cL_law 631 = .ok (.iload 5, 2) := by decide +kernel
theorem dL_law_633 : decode cL_law 633 = .ok (.ifCond .ne 15, 3) := by decide +kernel
theorem dL_law_636 : decode cL_law 636 = .ok (.aload_n 3, 1) := by decide +kernel
theorem dL_law_637 : decode cL_law 637 = .ok (.iconst 0, 1) := by decide +kernel
theorem dL_law_638 : decode cL_law 638 = .ok (.laload, 1) := by decide +kernel
theorem dL_law_639 : decode cL_law 639 = .ok (.iload 6, 2) := by decide +kernel
theorem dL_law_641 : decode cL_law 641 = .ok (.i2l, 1) := by decide +kernel
theorem dL_law_642 : decode cL_law 642 = .ok (.lcmp, 1) := by decide +kernel
theorem dL_law_643 : decode cL_law 643 = .ok (.ifCond .eq 5, 3) := by decide +kernel
theorem dL_law_646 : decode cL_law 646 = .ok (.iconst 0, 1) := by decide +kernel
theorem dL_law_647 : decode cL_law 647 = .ok (.ireturn, 1) := by decide +kernel
theorem dL_law_648 : decode cL_law 648 = .ok (.goto 1403, 3) := by decide +kernel
theorem dL_law_651 : decode cL_law 651 = .ok (.aload_n 1, 1) := by decide +kernel
theorem dL_law_652 : decode cL_law 652 = .ok (.aload_n 3, 1) := by decide +kernel
theorem dL_law_653 : decode cL_law 653 = .ok (.invokestatic 143, 3) := by decide +kernel
theorem dL_law_656 : decode cL_law 656 = .ok (.istore 5, 2) := by decide +kernel
theorem dL_law_658 : decode cL_law 658 = .ok (.aload_n 2, 1) := by decide +kernel
theorem dL_law_659 : decode cL_law 659 = .ok (.invokevirtual 145, 3) := by decide +kernel
theorem dL_law_662 : decode cL_law 662 = .ok (.istore 6, 2) := by decide +kernel
theorem dL_law_664 : decode cL_law 664 = .ok (.aload_n 2, 1) := by decide +kernel
theorem dL_law_665 : decode cL_law 665 = .ok (.invokevirtual 122, 3) := by decide +kernel
theorem dL_law_668 : decode cL_law 668 = .ok (.iload 5, 2) := by decide +kernel
theorem dL_law_670 : decode cL_law 670 = .ok (.if_icmp .eq 5, 3) := by decide +kernel
theorem dL_law_673 : decode cL_law 673 = .ok (.iconst 0, 1) := by decide +kernel
theorem dL_law_674 : decode cL_law 674 = .ok (.ireturn, 1) := by decide +kernel
theorem dL_law_675 : decode cL_law 675 = .ok (.iload 5, 2) := by decide +kernel
theorem dL_law_677 : decode cL_law 677 = .ok (.ifCond .ne 15, 3) := by decide +kernel
theorem dL_law_680 : decode cL_law 680 = .ok (.aload_n 3, 1) := by decide +kernel
theorem dL_law_681 : decode cL_law 681 = .ok (.iconst 0, 1) := by decide +kernel
theorem dL_law_682 : decode cL_law 682 = .ok (.laload, 1) := by decide +kernel
theorem dL_law_683 : decode cL_law 683 = .ok (.iload 6, 2) := by decide +kernel
theorem dL_law_685 : decode cL_law 685 = .ok (.i2l, 1) := by decide +kernel
theorem dL_law_686 : decode cL_law 686 = .ok (.lcmp, 1) := by decide +kernel
theorem dL_law_687 : decode cL_law 687 = .ok (.ifCond .eq 5, 3) := by decide +kernel
theorem dL_law_690 : decode cL_law 690 = .ok (.iconst 0, 1) := by decide +kernel
theorem dL_law_691 : decode cL_law 691 = .ok (.ireturn, 1) := by decide +kernel
theorem dL_law_692 : decode cL_law 692 = .ok (.goto 1359, 3) := by decide +kernel
theorem dL_law_695 : decode cL_law 695 = .ok (.aload_n 1, 1) := by decide +kernel
theorem dL_law_696 : decode cL_law 696 = .ok (.aload_n 0, 1) := by decide +kernel
theorem dL_law_697 : decode cL_law 697 = .ok (.iload 4, 2) := by decide +kernel
theorem dL_law_699 : decode cL_law 699 = .ok (.iconst 1, 1) := by decide +kernel
theorem dL_law_700 : decode cL_law 700 = .ok (.iadd, 1) := by decide +kernel
theorem dL_law_701 : decode cL_law 701 = .ok (.iaload, 1) := by decide +kernel
theorem dL_law_702 : decode cL_law 702 = .ok (.aload_n 3, 1) := by decide +kernel
theorem dL_law_703 : decode cL_law 703 = .ok (.invokestatic 146, 3) := by decide +kernel
theorem dL_law_706 : decode cL_law 706 = .ok (.istore 5, 2) := by decide +kernel
theorem dL_law_708 : decode cL_law 708 = .ok (.aload_n 2, 1) := by decide +kernel
theorem dL_law_709 : decode cL_law 709 = .ok (.aload_n 0, 1) := by decide +kernel
theorem dL_law_710 : decode cL_law 710 = .ok (.iload 4, 2) := by decide +kernel
theorem dL_law_712 : decode cL_law 712 = .ok (.iconst 1, 1) := by decide +kernel
theorem dL_law_713 : decode cL_law 713 = .ok (.iadd, 1) := by decide +kernel
theorem dL_law_714 : decode cL_law 714 = .ok (.iaload, 1) := by decide +kernel
theorem dL_law_715 : decode cL_law 715 = .ok (.invokevirtual 149, 3) := by decide +kernel
theorem dL_law_718 : decode cL_law 718 = .ok (.istore 6, 2) := by decide +kernel
theorem dL_law_720 : decode cL_law 720 = .ok (.aload_n 2, 1) := by decide +kernel
theorem dL_law_721 : decode cL_law 721 = .ok (.invokevirtual 122, 3) := by decide +kernel
theorem dL_law_724 : decode cL_law 724 = .ok (.iload 5, 2) := by decide +kernel
theorem dL_law_726 : decode cL_law 726 = .ok (.if_icmp .eq 5, 3) := by decide +kernel
theorem dL_law_729 : decode cL_law 729 = .ok (.iconst 0, 1) := by decide +kernel
theorem dL_law_730 : decode cL_law 730 = .ok (.ireturn, 1) := by decide +kernel
theorem dL_law_731 : decode cL_law 731 = .ok (.iload 5, 2) := by decide +kernel
theorem dL_law_733 : decode cL_law 733 = .ok (.ifCond .ne 15, 3) := by decide +kernel
theorem dL_law_736 : decode cL_law 736 = .ok (.aload_n 3, 1) := by decide +kernel
theorem dL_law_737 : decode cL_law 737 = .ok (.iconst 0, 1) := by decide +kernel
theorem dL_law_738 : decode cL_law 738 = .ok (.laload, 1) := by decide +kernel
theorem dL_law_739 : decode cL_law 739 = .ok (.iload 6, 2) := by decide +kernel
theorem dL_law_741 : decode cL_law 741 = .ok (.i2l, 1) := by decide +kernel
theorem dL_law_742 : decode cL_law 742 = .ok (.lcmp, 1) := by decide +kernel
theorem dL_law_743 : decode cL_law 743 = .ok (.ifCond .eq 5, 3) := by decide +kernel
theorem dL_law_746 : decode cL_law 746 = .ok (.iconst 0, 1) := by decide +kernel
theorem dL_law_747 : decode cL_law 747 = .ok (.ireturn, 1) := by decide +kernel
theorem dL_law_748 : decode cL_law 748 = .ok (.goto 1303, 3) := by decide +kernel
theorem dL_law_751 : decode cL_law 751 = .ok (.aload_n 1, 1) := by decide +kernel
theorem dL_law_752 : decode cL_law 752 = .ok (.aload_n 0, 1) := by decide +kernel
theorem dL_law_753 : decode cL_law 753 = .ok (.iload 4, 2) := by decide +kernel
theorem dL_law_755 : decode cL_law 755 = .ok (.iconst 1, 1) := by decide +kernel
theorem dL_law_756 : decode cL_law 756 = .ok (.iadd, 1) := by decide +kernel
theorem dL_law_757 : decode cL_law 757 = .ok (.iaload, 1) := by decide +kernel
theorem dL_law_758 : decode cL_law 758 = .ok (.aload_n 0, 1) := by decide +kernel
theorem dL_law_759 : decode cL_law 759 = .ok (.iload 4, 2) := by decide +kernel
theorem dL_law_761 : decode cL_law 761 = .ok (.iconst 2, 1) := by decide +kernel
theorem dL_law_762 : decode cL_law 762 = .ok (.iadd, 1) := by decide +kernel
theorem dL_law_763 : decode cL_law 763 = .ok (.iaload, 1) := by decide +kernel
theorem dL_law_764 : decode cL_law 764 = .ok (.aload_n 0, 1) := by decide +kernel
theorem dL_law_765 : decode cL_law 765 = .ok (.iload 4, 2) := by decide +kernel
theorem dL_law_767 : decode cL_law 767 = .ok (.iconst 3, 1) := by decide +kernel
theorem dL_law_768 : decode cL_law 768 = .ok (.iadd, 1) := by decide +kernel
theorem dL_law_769 : decode cL_law 769 = .ok (.iaload, 1) := by decide +kernel
theorem dL_law_770 : decode cL_law 770 = .ok (.aload_n 3, 1) := by decide +kernel
theorem dL_law_771 : decode cL_law 771 = .ok (.invokestatic 150, 3) := by decide +kernel
theorem dL_law_774 : decode cL_law 774 = .ok (.istore 5, 2) := by decide +kernel
theorem dL_law_776 : decode cL_law 776 = .ok (.aload_n 2, 1) := by decide +kernel
theorem dL_law_777 : decode cL_law 777 = .ok (.aload_n 0, 1) := by decide +kernel
theorem dL_law_778 : decode cL_law 778 = .ok (.iload 4, 2) := by decide +kernel
theorem dL_law_780 : decode cL_law 780 = .ok (.iconst 1, 1) := by decide +kernel
theorem dL_law_781 : decode cL_law 781 = .ok (.iadd, 1) := by decide +kernel
theorem dL_law_782 : decode cL_law 782 = .ok (.iaload, 1) := by decide +kernel
theorem dL_law_783 : decode cL_law 783 = .ok (.aload_n 0, 1) := by decide +kernel
theorem dL_law_784 : decode cL_law 784 = .ok (.iload 4, 2) := by decide +kernel
theorem dL_law_786 : decode cL_law 786 = .ok (.iconst 2, 1) := by decide +kernel
theorem dL_law_787 : decode cL_law 787 = .ok (.iadd, 1) := by decide +kernel
theorem dL_law_788 : decode cL_law 788 = .ok (.iaload, 1) := by decide +kernel
theorem dL_law_789 : decode cL_law 789 = .ok (.aload_n 0, 1) := by decide +kernel
theorem dL_law_790 : decode cL_law 790 = .ok (.iload 4, 2) := by decide +kernel
theorem dL_law_792 : decode cL_law 792 = .ok (.iconst 3, 1) := by decide +kernel
theorem dL_law_793 : decode cL_law 793 = .ok (.iadd, 1) := by decide +kernel
theorem dL_law_794 : decode cL_law 794 = .ok (.iaload, 1) := by decide +kernel
theorem dL_law_795 : decode cL_law 795 = .ok (.invokevirtual 153, 3) := by decide +kernel
theorem dL_law_798 : decode cL_law 798 = .ok (.istore 6, 2) := by decide +kernel
theorem dL_law_800 : decode cL_law 800 = .ok (.aload_n 2, 1) := by decide +kernel
theorem dL_law_801 : decode cL_law 801 = .ok (.invokevirtual 122, 3) := by decide +kernel
theorem dL_law_804 : decode cL_law 804 = .ok (.iload 5, 2) := by decide +kernel
theorem dL_law_806 : decode cL_law 806 = .ok (.if_icmp .eq 5, 3) := by decide +kernel
theorem dL_law_809 : decode cL_law 809 = .ok (.iconst 0, 1) := by decide +kernel
theorem dL_law_810 : decode cL_law 810 = .ok (.ireturn, 1) := by decide +kernel
theorem dL_law_811 : decode cL_law 811 = .ok (.iload 5, 2) := by decide +kernel
theorem dL_law_813 : decode cL_law 813 = .ok (.ifCond .ne 15, 3) := by decide +kernel
theorem dL_law_816 : decode cL_law 816 = .ok (.aload_n 3, 1) := by decide +kernel
theorem dL_law_817 : decode cL_law 817 = .ok (.iconst 0, 1) := by decide +kernel
theorem dL_law_818 : decode cL_law 818 = .ok (.laload, 1) := by decide +kernel
theorem dL_law_819 : decode cL_law 819 = .ok (.iload 6, 2) := by decide +kernel
theorem dL_law_821 : decode cL_law 821 = .ok (.i2l, 1) := by decide +kernel
theorem dL_law_822 : decode cL_law 822 = .ok (.lcmp, 1) := by decide +kernel
theorem dL_law_823 : decode cL_law 823 = .ok (.ifCond .eq 5, 3) := by decide +kernel
theorem dL_law_826 : decode cL_law 826 = .ok (.iconst 0, 1) := by decide +kernel
theorem dL_law_827 : decode cL_law 827 = .ok (.ireturn, 1) := by decide +kernel
theorem dL_law_828 : decode cL_law 828 = .ok (.goto 1223, 3) := by decide +kernel
theorem dL_law_831 : decode cL_law 831 = .ok (.aload_n 1, 1) := by decide +kernel
theorem dL_law_832 : decode cL_law 832 = .ok (.aload_n 0, 1) := by decide +kernel
theorem dL_law_833 : decode cL_law 833 = .ok (.iload 4, 2) := by decide +kernel
theorem dL_law_835 : decode cL_law 835 = .ok (.iconst 1, 1) := by decide +kernel
theorem dL_law_836 : decode cL_law 836 = .ok (.iadd, 1) := by decide +kernel
theorem dL_law_837 : decode cL_law 837 = .ok (.iaload, 1) := by decide +kernel
theorem dL_law_838 : decode cL_law 838 = .ok (.aload_n 0, 1) := by decide +kernel
theorem dL_law_839 : decode cL_law 839 = .ok (.iload 4, 2) := by decide +kernel
theorem dL_law_841 : decode cL_law 841 = .ok (.iconst 2, 1) := by decide +kernel
theorem dL_law_842 : decode cL_law 842 = .ok (.iadd, 1) := by decide +kernel
theorem dL_law_843 : decode cL_law 843 = .ok (.iaload, 1) := by decide +kernel
theorem dL_law_844 : decode cL_law 844 = .ok (.aload_n 0, 1) := by decide +kernel
theorem dL_law_845 : decode cL_law 845 = .ok (.iload 4, 2) := by decide +kernel
theorem dL_law_847 : decode cL_law 847 = .ok (.iconst 3, 1) := by decide +kernel
theorem dL_law_848 : decode cL_law 848 = .ok (.iadd, 1) := by decide +kernel
theorem dL_law_849 : decode cL_law 849 = .ok (.iaload, 1) := by decide +kernel
theorem dL_law_850 : decode cL_law 850 = .ok (.aload_n 0, 1) := by decide +kernel
theorem dL_law_851 : decode cL_law 851 = .ok (.iload 4, 2) := by decide +kernel
theorem dL_law_853 : decode cL_law 853 = .ok (.iconst 4, 1) := by decide +kernel
theorem dL_law_854 : decode cL_law 854 = .ok (.iadd, 1) := by decide +kernel
theorem dL_law_855 : decode cL_law 855 = .ok (.iaload, 1) := by decide +kernel
theorem dL_law_856 : decode cL_law 856 = .ok (.aload_n 3, 1) := by decide +kernel
theorem dL_law_857 : decode cL_law 857 = .ok (.invokestatic 154, 3) := by decide +kernel
theorem dL_law_860 : decode cL_law 860 = .ok (.istore 5, 2) := by decide +kernel
theorem dL_law_862 : decode cL_law 862 = .ok (.aload_n 2, 1) := by decide +kernel
theorem dL_law_863 : decode cL_law 863 = .ok (.aload_n 0, 1) := by decide +kernel
theorem dL_law_864 : decode cL_law 864 = .ok (.iload 4, 2) := by decide +kernel
theorem dL_law_866 : decode cL_law 866 = .ok (.iconst 1, 1) := by decide +kernel
theorem dL_law_867 : decode cL_law 867 = .ok (.iadd, 1) := by decide +kernel
theorem dL_law_868 : decode cL_law 868 = .ok (.iaload, 1) := by decide +kernel
theorem dL_law_869 : decode cL_law 869 = .ok (.aload_n 0, 1) := by decide +kernel
theorem dL_law_870 : decode cL_law 870 = .ok (.iload 4, 2) := by decide +kernel
theorem dL_law_872 : decode cL_law 872 = .ok (.iconst 2, 1) := by decide +kernel
theorem dL_law_873 : decode cL_law 873 = .ok (.iadd, 1) := by decide +kernel
theorem dL_law_874 : decode cL_law 874 = .ok (.iaload, 1) := by decide +kernel
theorem dL_law_875 : decode cL_law 875 = .ok (.aload_n 0, 1) := by decide +kernel
theorem dL_law_876 : decode cL_law 876 = .ok (.iload 4, 2) := by decide +kernel
theorem dL_law_878 : decode cL_law 878 = .ok (.iconst 3, 1) := by decide +kernel
theorem dL_law_879 : decode cL_law 879 = .ok (.iadd, 1) := by decide +kernel
theorem dL_law_880 : decode cL_law 880 = .ok (.iaload, 1) := by decide +kernel
theorem dL_law_881 : decode cL_law 881 = .ok (.aload_n 0, 1) := by decide +kernel
theorem dL_law_882 : decode cL_law 882 = .ok (.iload 4, 2) := by decide +kernel
theorem dL_law_884 : decode cL_law 884 = .ok (.iconst 4, 1) := by decide +kernel
theorem dL_law_885 : decode cL_law 885 = .ok (.iadd, 1) := by decide +kernel
theorem dL_law_886 : decode cL_law 886 = .ok (.iaload, 1) := by decide +kernel
theorem dL_law_887 : decode cL_law 887 = .ok (.invokevirtual 157, 3) := by decide +kernel
theorem dL_law_890 : decode cL_law 890 = .ok (.istore 6, 2) := by decide +kernel
theorem dL_law_892 : decode cL_law 892 = .ok (.aload_n 2, 1) := by decide +kernel
theorem dL_law_893 : decode cL_law 893 = .ok (.invokevirtual 122, 3) := by decide +kernel
theorem dL_law_896 : decode cL_law 896 = .ok (.iload 5, 2) := by decide +kernel
theorem dL_law_898 : decode cL_law 898 = .ok (.if_icmp .eq 5, 3) := by decide +kernel
theorem dL_law_901 : decode cL_law 901 = .ok (.iconst 0, 1) := by decide +kernel
theorem dL_law_902 : decode cL_law 902 = .ok (.ireturn, 1) := by decide +kernel
theorem dL_law_903 : decode cL_law 903 = .ok (.iload 5, 2) := by decide +kernel
theorem dL_law_905 : decode cL_law 905 = .ok (.ifCond .ne 15, 3) := by decide +kernel
theorem dL_law_908 : decode cL_law 908 = .ok (.aload_n 3, 1) := by decide +kernel
theorem dL_law_909 : decode cL_law 909 = .ok (.iconst 0, 1) := by decide +kernel
theorem dL_law_910 : decode cL_law 910 = .ok (.laload, 1) := by decide +kernel
theorem dL_law_911 : decode cL_law 911 = .ok (.iload 6, 2) := by decide +kernel
theorem dL_law_913 : decode cL_law 913 = .ok (.i2l, 1) := by decide +kernel
theorem dL_law_914 : decode cL_law 914 = .ok (.lcmp, 1) := by decide +kernel
theorem dL_law_915 : decode cL_law 915 = .ok (.ifCond .eq 5, 3) := by decide +kernel
theorem dL_law_918 : decode cL_law 918 = .ok (.iconst 0, 1) := by decide +kernel
theorem dL_law_919 : decode cL_law 919 = .ok (.ireturn, 1) := by decide +kernel
theorem dL_law_920 : decode cL_law 920 = .ok (.goto 1131, 3) := by decide +kernel
theorem dL_law_923 : decode cL_law 923 = .ok (.aload_n 1, 1) := by decide +kernel
theorem dL_law_924 : decode cL_law 924 = .ok (.aload_n 0, 1) := by decide +kernel
theorem dL_law_925 : decode cL_law 925 = .ok (.iload 4, 2) := by decide +kernel
theorem dL_law_927 : decode cL_law 927 = .ok (.iconst 1, 1) := by decide +kernel
theorem dL_law_928 : decode cL_law 928 = .ok (.iadd, 1) := by decide +kernel
theorem dL_law_929 : decode cL_law 929 = .ok (.iaload, 1) := by decide +kernel
theorem dL_law_930 : decode cL_law 930 = .ok (.aload_n 0, 1) := by decide +kernel
theorem dL_law_931 : decode cL_law 931 = .ok (.iload 4, 2) := by decide +kernel
theorem dL_law_933 : decode cL_law 933 = .ok (.iconst 2, 1) := by decide +kernel
theorem dL_law_934 : decode cL_law 934 = .ok (.iadd, 1) := by decide +kernel
theorem dL_law_935 : decode cL_law 935 = .ok (.iaload, 1) := by decide +kernel
theorem dL_law_936 : decode cL_law 936 = .ok (.aload_n 3, 1) := by decide +kernel
theorem dL_law_937 : decode cL_law 937 = .ok (.invokestatic 158, 3) := by decide +kernel
theorem dL_law_940 : decode cL_law 940 = .ok (.istore 5, 2) := by decide +kernel
theorem dL_law_942 : decode cL_law 942 = .ok (.aload_n 2, 1) := by decide +kernel
theorem dL_law_943 : decode cL_law 943 = .ok (.aload_n 0, 1) := by decide +kernel
theorem dL_law_944 : decode cL_law 944 = .ok (.iload 4, 2) := by decide +kernel
theorem dL_law_946 : decode cL_law 946 = .ok (.iconst 1, 1) := by decide +kernel
theorem dL_law_947 : decode cL_law 947 = .ok (.iadd, 1) := by decide +kernel
theorem dL_law_948 : decode cL_law 948 = .ok (.iaload, 1) := by decide +kernel
theorem dL_law_949 : decode cL_law 949 = .ok (.aload_n 0, 1) := by decide +kernel
theorem dL_law_950 : decode cL_law 950 = .ok (.iload 4, 2) := by decide +kernel
theorem dL_law_952 : decode cL_law 952 = .ok (.iconst 2, 1) := by decide +kernel
theorem dL_law_953 : decode cL_law 953 = .ok (.iadd, 1) := by decide +kernel
theorem dL_law_954 : decode cL_law 954 = .ok (.iaload, 1) := by decide +kernel
theorem dL_law_955 : decode cL_law 955 = .ok (.invokevirtual 161, 3) := by decide +kernel
theorem dL_law_958 : decode cL_law 958 = .ok (.istore 6, 2) := by decide +kernel
theorem dL_law_960 : decode cL_law 960 = .ok (.aload_n 2, 1) := by decide +kernel
theorem dL_law_961 : decode cL_law 961 = .ok (.invokevirtual 122, 3) := by decide +kernel
theorem dL_law_964 : decode cL_law 964 = .ok (.iload 5, 2) := by decide +kernel
theorem dL_law_966 : decode cL_law 966 = .ok (.if_icmp .eq 5, 3) := by decide +kernel
theorem dL_law_969 : decode cL_law 969 = .ok (.iconst 0, 1) := by decide +kernel
theorem dL_law_970 : decode cL_law 970 = .ok (.ireturn, 1) := by decide +kernel
theorem dL_law_971 : decode cL_law 971 = .ok (.iload 5, 2) := by decide +kernel
theorem dL_law_973 : decode cL_law 973 = .ok (.ifCond .ne 15, 3) := by decide +kernel
theorem dL_law_976 : decode cL_law 976 = .ok (.aload_n 3, 1) := by decide +kernel
theorem dL_law_977 : decode cL_law 977 = .ok (.iconst 0, 1) := by decide +kernel
theorem dL_law_978 : decode cL_law 978 = .ok (.laload, 1) := by decide +kernel
theorem dL_law_979 : decode cL_law 979 = .ok (.iload 6, 2) := by decide +kernel
theorem dL_law_981 : decode cL_law 981 = .ok (.i2l, 1) := by decide +kernel
theorem dL_law_982 : decode cL_law 982 = .ok (.lcmp, 1) := by decide +kernel
theorem dL_law_983 : decode cL_law 983 = .ok (.ifCond .eq 5, 3) := by decide +kernel
theorem dL_law_986 : decode cL_law 986 = .ok (.iconst 0, 1) := by decide +kernel
theorem dL_law_987 : decode cL_law 987 = .ok (.ireturn, 1) := by decide +kernel
theorem dL_law_988 : decode cL_law 988 = .ok (.goto 1063, 3) := by decide +kernel
theorem dL_law_991 : decode cL_law 991 = .ok (.aload_n 1, 1) := by decide +kernel
theorem dL_law_992 : decode cL_law 992 = .ok (.aload_n 0, 1) := by decide +kernel
theorem dL_law_993 : decode cL_law 993 = .ok (.iload 4, 2) := by decide +kernel
theorem dL_law_995 : decode cL_law 995 = .ok (.iconst 1, 1) := by decide +kernel
theorem dL_law_996 : decode cL_law 996 = .ok (.iadd, 1) := by decide +kernel
theorem dL_law_997 : decode cL_law 997 = .ok (.iaload, 1) := by decide +kernel
theorem dL_law_998 : decode cL_law 998 = .ok (.aload_n 0, 1) := by decide +kernel
theorem dL_law_999 : decode cL_law 999 = .ok (.iload 4, 2) := by decide +kernel
theorem dL_law_1001 : decode cL_law 1001 = .ok (.iconst 2, 1) := by decide +kernel
theorem dL_law_1002 : decode cL_law 1002 = .ok (.iadd, 1) := by decide +kernel
theorem dL_law_1003 : decode cL_law 1003 = .ok (.iaload, 1) := by decide +kernel
theorem dL_law_1004 : decode cL_law 1004 = .ok (.aload_n 3, 1) := by decide +kernel
theorem dL_law_1005 : decode cL_law 1005 = .ok (.invokestatic 162, 3) := by decide +kernel
theorem dL_law_1008 : decode cL_law 1008 = .ok (.istore 5, 2) := by decide +kernel
theorem dL_law_1010 : decode cL_law 1010 = .ok (.aload_n 2, 1) := by decide +kernel
theorem dL_law_1011 : decode cL_law 1011 = .ok (.aload_n 0, 1) := by decide +kernel
theorem dL_law_1012 : decode cL_law 1012 = .ok (.iload 4, 2) := by decide +kernel
theorem dL_law_1014 : decode cL_law 1014 = .ok (.iconst 1, 1) := by decide +kernel
theorem dL_law_1015 : decode cL_law 1015 = .ok (.iadd, 1) := by decide +kernel
theorem dL_law_1016 : decode cL_law 1016 = .ok (.iaload, 1) := by decide +kernel
theorem dL_law_1017 : decode cL_law 1017 = .ok (.aload_n 0, 1) := by decide +kernel
theorem dL_law_1018 : decode cL_law 1018 = .ok (.iload 4, 2) := by decide +kernel
theorem dL_law_1020 : decode cL_law 1020 = .ok (.iconst 2, 1) := by decide +kernel
theorem dL_law_1021 : decode cL_law 1021 = .ok (.iadd, 1) := by decide +kernel
theorem dL_law_1022 : decode cL_law 1022 = .ok (.iaload, 1) := by decide +kernel
theorem dL_law_1023 : decode cL_law 1023 = .ok (.invokevirtual 164, 3) := by decide +kernel
theorem dL_law_1026 : decode cL_law 1026 = .ok (.istore 6, 2) := by decide +kernel
theorem dL_law_1028 : decode cL_law 1028 = .ok (.aload_n 2, 1) := by decide +kernel
theorem dL_law_1029 : decode cL_law 1029 = .ok (.invokevirtual 122, 3) := by decide +kernel
theorem dL_law_1032 : decode cL_law 1032 = .ok (.iload 5, 2) := by decide +kernel
theorem dL_law_1034 : decode cL_law 1034 = .ok (.if_icmp .eq 5, 3) := by decide +kernel
theorem dL_law_1037 : decode cL_law 1037 = .ok (.iconst 0, 1) := by decide +kernel
theorem dL_law_1038 : decode cL_law 1038 = .ok (.ireturn, 1) := by decide +kernel
theorem dL_law_1039 : decode cL_law 1039 = .ok (.iload 5, 2) := by decide +kernel
theorem dL_law_1041 : decode cL_law 1041 = .ok (.ifCond .ne 15, 3) := by decide +kernel
theorem dL_law_1044 : decode cL_law 1044 = .ok (.aload_n 3, 1) := by decide +kernel
theorem dL_law_1045 : decode cL_law 1045 = .ok (.iconst 0, 1) := by decide +kernel
theorem dL_law_1046 : decode cL_law 1046 = .ok (.laload, 1) := by decide +kernel
theorem dL_law_1047 : decode cL_law 1047 = .ok (.iload 6, 2) := by decide +kernel
theorem dL_law_1049 : decode cL_law 1049 = .ok (.i2l, 1) := by decide +kernel
theorem dL_law_1050 : decode cL_law 1050 = .ok (.lcmp, 1) := by decide +kernel
theorem dL_law_1051 : decode cL_law 1051 = .ok (.ifCond .eq 5, 3) := by decide +kernel
theorem dL_law_1054 : decode cL_law 1054 = .ok (.iconst 0, 1) := by decide +kernel
theorem dL_law_1055 : decode cL_law 1055 = .ok (.ireturn, 1) := by decide +kernel
theorem dL_law_1056 : decode cL_law 1056 = .ok (.goto 995, 3) := by decide +kernel
theorem dL_law_1059 : decode cL_law 1059 = .ok (.aload_n 1, 1) := by decide +kernel
theorem dL_law_1060 : decode cL_law 1060 = .ok (.aload_n 0, 1) := by decide +kernel
theorem dL_law_1061 : decode cL_law 1061 = .ok (.iload 4, 2) := by decide +kernel
theorem dL_law_1063 : decode cL_law 1063 = .ok (.iconst 1, 1) := by decide +kernel
theorem dL_law_1064 : decode cL_law 1064 = .ok (.iadd, 1) := by decide +kernel
theorem dL_law_1065 : decode cL_law 1065 = .ok (.iaload, 1) := by decide +kernel
theorem dL_law_1066 : decode cL_law 1066 = .ok (.aload_n 0, 1) := by decide +kernel
theorem dL_law_1067 : decode cL_law 1067 = .ok (.iload 4, 2) := by decide +kernel
theorem dL_law_1069 : decode cL_law 1069 = .ok (.iconst 2, 1) := by decide +kernel
theorem dL_law_1070 : decode cL_law 1070 = .ok (.iadd, 1) := by decide +kernel
theorem dL_law_1071 : decode cL_law 1071 = .ok (.iaload, 1) := by decide +kernel
theorem dL_law_1072 : decode cL_law 1072 = .ok (.aload_n 0, 1) := by decide +kernel
theorem dL_law_1073 : decode cL_law 1073 = .ok (.iload 4, 2) := by decide +kernel
theorem dL_law_1075 : decode cL_law 1075 = .ok (.iconst 3, 1) := by decide +kernel
theorem dL_law_1076 : decode cL_law 1076 = .ok (.iadd, 1) := by decide +kernel
theorem dL_law_1077 : decode cL_law 1077 = .ok (.iaload, 1) := by decide +kernel
theorem dL_law_1078 : decode cL_law 1078 = .ok (.aload_n 3, 1) := by decide +kernel
theorem dL_law_1079 : decode cL_law 1079 = .ok (.invokestatic 165, 3) := by decide +kernel
theorem dL_law_1082 : decode cL_law 1082 = .ok (.istore 5, 2) := by decide +kernel
theorem dL_law_1084 : decode cL_law 1084 = .ok (.aload_n 2, 1) := by decide +kernel
theorem dL_law_1085 : decode cL_law 1085 = .ok (.aload_n 0, 1) := by decide +kernel
theorem dL_law_1086 : decode cL_law 1086 = .ok (.iload 4, 2) := by decide +kernel
theorem dL_law_1088 : decode cL_law 1088 = .ok (.iconst 1, 1) := by decide +kernel
theorem dL_law_1089 : decode cL_law 1089 = .ok (.iadd, 1) := by decide +kernel
theorem dL_law_1090 : decode cL_law 1090 = .ok (.iaload, 1) := by decide +kernel
theorem dL_law_1091 : decode cL_law 1091 = .ok (.aload_n 0, 1) := by decide +kernel
theorem dL_law_1092 : decode cL_law 1092 = .ok (.iload 4, 2) := by decide +kernel
theorem dL_law_1094 : decode cL_law 1094 = .ok (.iconst 2, 1) := by decide +kernel
theorem dL_law_1095 : decode cL_law 1095 = .ok (.iadd, 1) := by decide +kernel
theorem dL_law_1096 : decode cL_law 1096 = .ok (.iaload, 1) := by decide +kernel
theorem dL_law_1097 : decode cL_law 1097 = .ok (.aload_n 0, 1) := by decide +kernel
theorem dL_law_1098 : decode cL_law 1098 = .ok (.iload 4, 2) := by decide +kernel
theorem dL_law_1100 : decode cL_law 1100 = .ok (.iconst 3, 1) := by decide +kernel
theorem dL_law_1101 : decode cL_law 1101 = .ok (.iadd, 1) := by decide +kernel
theorem dL_law_1102 : decode cL_law 1102 = .ok (.iaload, 1) := by decide +kernel
theorem dL_law_1103 : decode cL_law 1103 = .ok (.invokevirtual 167, 3) := by decide +kernel
theorem dL_law_1106 : decode cL_law 1106 = .ok (.lstore 6, 2) := by decide +kernel
theorem dL_law_1108 : decode cL_law 1108 = .ok (.aload_n 2, 1) := by decide +kernel
theorem dL_law_1109 : decode cL_law 1109 = .ok (.invokevirtual 122, 3) := by decide +kernel
theorem dL_law_1112 : decode cL_law 1112 = .ok (.iload 5, 2) := by decide +kernel
theorem dL_law_1114 : decode cL_law 1114 = .ok (.if_icmp .eq 5, 3) := by decide +kernel
theorem dL_law_1117 : decode cL_law 1117 = .ok (.iconst 0, 1) := by decide +kernel
theorem dL_law_1118 : decode cL_law 1118 = .ok (.ireturn, 1) := by decide +kernel
theorem dL_law_1119 : decode cL_law 1119 = .ok (.iload 5, 2) := by decide +kernel
theorem dL_law_1121 : decode cL_law 1121 = .ok (.ifCond .ne 14, 3) := by decide +kernel
theorem dL_law_1124 : decode cL_law 1124 = .ok (.aload_n 3, 1) := by decide +kernel
theorem dL_law_1125 : decode cL_law 1125 = .ok (.iconst 0, 1) := by decide +kernel
theorem dL_law_1126 : decode cL_law 1126 = .ok (.laload, 1) := by decide +kernel
theorem dL_law_1127 : decode cL_law 1127 = .ok (.lload 6, 2) := by decide +kernel
theorem dL_law_1129 : decode cL_law 1129 = .ok (.lcmp, 1) := by decide +kernel
theorem dL_law_1130 : decode cL_law 1130 = .ok (.ifCond .eq 5, 3) := by decide +kernel
theorem dL_law_1133 : decode cL_law 1133 = .ok (.iconst 0, 1) := by decide +kernel
theorem dL_law_1134 : decode cL_law 1134 = .ok (.ireturn, 1) := by decide +kernel
theorem dL_law_1135 : decode cL_law 1135 = .ok (.goto 916, 3) := by decide +kernel
theorem dL_law_1138 : decode cL_law 1138 = .ok (.aload_n 1, 1) := by decide +kernel
theorem dL_law_1139 : decode cL_law 1139 = .ok (.aload_n 0, 1) := by decide +kernel
theorem dL_law_1140 : decode cL_law 1140 = .ok (.iload 4, 2) := by decide +kernel
theorem dL_law_1142 : decode cL_law 1142 = .ok (.iconst 1, 1) := by decide +kernel
theorem dL_law_1143 : decode cL_law 1143 = .ok (.iadd, 1) := by decide +kernel
theorem dL_law_1144 : decode cL_law 1144 = .ok (.iaload, 1) := by decide +kernel
theorem dL_law_1145 : decode cL_law 1145 = .ok (.aload_n 0, 1) := by decide +kernel
theorem dL_law_1146 : decode cL_law 1146 = .ok (.iload 4, 2) := by decide +kernel
theorem dL_law_1148 : decode cL_law 1148 = .ok (.iconst 2, 1) := by decide +kernel
theorem dL_law_1149 : decode cL_law 1149 = .ok (.iadd, 1) := by decide +kernel
theorem dL_law_1150 : decode cL_law 1150 = .ok (.iaload, 1) := by decide +kernel
theorem dL_law_1151 : decode cL_law 1151 = .ok (.ifCond .eq 7, 3) := by decide +kernel
theorem dL_law_1154 : decode cL_law 1154 = .ok (.iconst 1, 1) := by decide +kernel
theorem dL_law_1155 : decode cL_law 1155 = .ok (.goto 4, 3) := by decide +kernel
theorem dL_law_1158 : decode cL_law 1158 = .ok (.iconst 0, 1) := by decide +kernel
theorem dL_law_1159 : decode cL_law 1159 = .ok (.aload_n 3, 1) := by decide +kernel
theorem dL_law_1160 : decode cL_law 1160 = .ok (.invokestatic 168, 3) := by decide +kernel
theorem dL_law_1163 : decode cL_law 1163 = .ok (.istore 5, 2) := by decide +kernel
theorem dL_law_1165 : decode cL_law 1165 = .ok (.aload_n 2, 1) := by decide +kernel
theorem dL_law_1166 : decode cL_law 1166 = .ok (.aload_n 0, 1) := by decide +kernel
theorem dL_law_1167 : decode cL_law 1167 = .ok (.iload 4, 2) := by decide +kernel
theorem dL_law_1169 : decode cL_law 1169 = .ok (.iconst 1, 1) := by decide +kernel
theorem dL_law_1170 : decode cL_law 1170 = .ok (.iadd, 1) := by decide +kernel
theorem dL_law_1171 : decode cL_law 1171 = .ok (.iaload, 1) := by decide +kernel
theorem dL_law_1172 : decode cL_law 1172 = .ok (.aload_n 0, 1) := by decide +kernel
theorem dL_law_1173 : decode cL_law 1173 = .ok (.iload 4, 2) := by decide +kernel
theorem dL_law_1175 : decode cL_law 1175 = .ok (.iconst 2, 1) := by decide +kernel
theorem dL_law_1176 : decode cL_law 1176 = .ok (.iadd, 1) := by decide +kernel
theorem dL_law_1177 : decode cL_law 1177 = .ok (.iaload, 1) := by decide +kernel
theorem dL_law_1178 : decode cL_law 1178 = .ok (.ifCond .eq 7, 3) := by decide +kernel
theorem dL_law_1181 : decode cL_law 1181 = .ok (.iconst 1, 1) := by decide +kernel
theorem dL_law_1182 : decode cL_law 1182 = .ok (.goto 4, 3) := by decide +kernel
theorem dL_law_1185 : decode cL_law 1185 = .ok (.iconst 0, 1) := by decide +kernel
theorem dL_law_1186 : decode cL_law 1186 = .ok (.invokevirtual 171, 3) := by decide +kernel
theorem dL_law_1189 : decode cL_law 1189 = .ok (.istore 6, 2) := by decide +kernel
theorem dL_law_1191 : decode cL_law 1191 = .ok (.aload_n 2, 1) := by decide +kernel
theorem dL_law_1192 : decode cL_law 1192 = .ok (.invokevirtual 122, 3) := by decide +kernel
theorem dL_law_1195 : decode cL_law 1195 = .ok (.iload 5, 2) := by decide +kernel
theorem dL_law_1197 : decode cL_law 1197 = .ok (.if_icmp .eq 5, 3) := by decide +kernel
theorem dL_law_1200 : decode cL_law 1200 = .ok (.iconst 0, 1) := by decide +kernel
theorem dL_law_1201 : decode cL_law 1201 = .ok (.ireturn, 1) := by decide +kernel
theorem dL_law_1202 : decode cL_law 1202 = .ok (.iload 5, 2) := by decide +kernel
theorem dL_law_1204 : decode cL_law 1204 = .ok (.ifCond .ne 15, 3) := by decide +kernel
theorem dL_law_1207 : decode cL_law 1207 = .ok (.aload_n 3, 1) := by decide +kernel
theorem dL_law_1208 : decode cL_law 1208 = .ok (.iconst 0, 1) := by decide +kernel
theorem dL_law_1209 : decode cL_law 1209 = .ok (.laload, 1) := by decide +kernel
theorem dL_law_1210 : decode cL_law 1210 = .ok (.iload 6, 2) := by decide +kernel
theorem dL_law_1212 : decode cL_law 1212 = .ok (.i2l, 1) := by decide +kernel
theorem dL_law_1213 : decode cL_law 1213 = .ok (.lcmp, 1) := by decide +kernel
theorem dL_law_1214 : decode cL_law 1214 = .ok (.ifCond .eq 5, 3) := by decide +kernel
theorem dL_law_1217 : decode cL_law 1217 = .ok (.iconst 0, 1) := by decide +kernel
theorem dL_law_1218 : decode cL_law 1218 = .ok (.ireturn, 1) := by decide +kernel
theorem dL_law_1219 : decode cL_law 1219 = .ok (.goto 832, 3) := by decide +kernel
theorem dL_law_1222 : decode cL_law 1222 = .ok (.aload_n 1, 1) := by decide +kernel
theorem dL_law_1223 : decode cL_law 1223 = .ok (.aload_n 0, 1) := by decide +kernel
theorem dL_law_1224 : decode cL_law 1224 = .ok (.iload 4, 2) := by decide +kernel
theorem dL_law_1226 : decode cL_law 1226 = .ok (.iconst 1, 1) := by decide +kernel
theorem dL_law_1227 : decode cL_law 1227 = .ok (.iadd, 1) := by decide +kernel
theorem dL_law_1228 : decode cL_law 1228 = .ok (.iaload, 1) := by decide +kernel
theorem dL_law_1229 : decode cL_law 1229 = .ok (.aload_n 0, 1) := by decide +kernel
theorem dL_law_1230 : decode cL_law 1230 = .ok (.iload 4, 2) := by decide +kernel
theorem dL_law_1232 : decode cL_law 1232 = .ok (.iconst 2, 1) := by decide +kernel
theorem dL_law_1233 : decode cL_law 1233 = .ok (.iadd, 1) := by decide +kernel
theorem dL_law_1234 : decode cL_law 1234 = .ok (.iaload, 1) := by decide +kernel
theorem dL_law_1235 : decode cL_law 1235 = .ok (.aload_n 3, 1) := by decide +kernel
theorem dL_law_1236 : decode cL_law 1236 = .ok (.invokestatic 172, 3) := by decide +kernel
theorem dL_law_1239 : decode cL_law 1239 = .ok (.istore 5, 2) := by decide +kernel
theorem dL_law_1241 : decode cL_law 1241 = .ok (.aload_n 2, 1) := by decide +kernel
theorem dL_law_1242 : decode cL_law 1242 = .ok (.aload_n 0, 1) := by decide +kernel
theorem dL_law_1243 : decode cL_law 1243 = .ok (.iload 4, 2) := by decide +kernel
theorem dL_law_1245 : decode cL_law 1245 = .ok (.iconst 1, 1) := by decide +kernel
theorem dL_law_1246 : decode cL_law 1246 = .ok (.iadd, 1) := by decide +kernel
theorem dL_law_1247 : decode cL_law 1247 = .ok (.iaload, 1) := by decide +kernel
theorem dL_law_1248 : decode cL_law 1248 = .ok (.aload_n 0, 1) := by decide +kernel
theorem dL_law_1249 : decode cL_law 1249 = .ok (.iload 4, 2) := by decide +kernel
theorem dL_law_1251 : decode cL_law 1251 = .ok (.iconst 2, 1) := by decide +kernel
theorem dL_law_1252 : decode cL_law 1252 = .ok (.iadd, 1) := by decide +kernel
theorem dL_law_1253 : decode cL_law 1253 = .ok (.iaload, 1) := by decide +kernel
theorem dL_law_1254 : decode cL_law 1254 = .ok (.invokevirtual 174, 3) := by decide +kernel
theorem dL_law_1257 : decode cL_law 1257 = .ok (.istore 6, 2) := by decide +kernel
theorem dL_law_1259 : decode cL_law 1259 = .ok (.aload_n 2, 1) := by decide +kernel
theorem dL_law_1260 : decode cL_law 1260 = .ok (.invokevirtual 122, 3) := by decide +kernel
theorem dL_law_1263 : decode cL_law 1263 = .ok (.iload 5, 2) := by decide +kernel
theorem dL_law_1265 : decode cL_law 1265 = .ok (.if_icmp .eq 5, 3) := by decide +kernel
theorem dL_law_1268 : decode cL_law 1268 = .ok (.iconst 0, 1) := by decide +kernel
theorem dL_law_1269 : decode cL_law 1269 = .ok (.ireturn, 1) := by decide +kernel
theorem dL_law_1270 : decode cL_law 1270 = .ok (.iload 5, 2) := by decide +kernel
theorem dL_law_1272 : decode cL_law 1272 = .ok (.ifCond .ne 15, 3) := by decide +kernel
theorem dL_law_1275 : decode cL_law 1275 = .ok (.aload_n 3, 1) := by decide +kernel
theorem dL_law_1276 : decode cL_law 1276 = .ok (.iconst 0, 1) := by decide +kernel
theorem dL_law_1277 : decode cL_law 1277 = .ok (.laload, 1) := by decide +kernel
theorem dL_law_1278 : decode cL_law 1278 = .ok (.iload 6, 2) := by decide +kernel
theorem dL_law_1280 : decode cL_law 1280 = .ok (.i2l, 1) := by decide +kernel
theorem dL_law_1281 : decode cL_law 1281 = .ok (.lcmp, 1) := by decide +kernel
theorem dL_law_1282 : decode cL_law 1282 = .ok (.ifCond .eq 5, 3) := by decide +kernel
theorem dL_law_1285 : decode cL_law 1285 = .ok (.iconst 0, 1) := by decide +kernel
theorem dL_law_1286 : decode cL_law 1286 = .ok (.ireturn, 1) := by decide +kernel
theorem dL_law_1287 : decode cL_law 1287 = .ok (.goto 764, 3) := by decide +kernel
theorem dL_law_1290 : decode cL_law 1290 = .ok (.aload_n 1, 1) := by decide +kernel
theorem dL_law_1291 : decode cL_law 1291 = .ok (.aload_n 0, 1) := by decide +kernel
theorem dL_law_1292 : decode cL_law 1292 = .ok (.iload 4, 2) := by decide +kernel
theorem dL_law_1294 : decode cL_law 1294 = .ok (.iconst 1, 1) := by decide +kernel
theorem dL_law_1295 : decode cL_law 1295 = .ok (.iadd, 1) := by decide +kernel
theorem dL_law_1296 : decode cL_law 1296 = .ok (.iaload, 1) := by decide +kernel
theorem dL_law_1297 : decode cL_law 1297 = .ok (.aload_n 0, 1) := by decide +kernel
theorem dL_law_1298 : decode cL_law 1298 = .ok (.iload 4, 2) := by decide +kernel
theorem dL_law_1300 : decode cL_law 1300 = .ok (.iconst 2, 1) := by decide +kernel
theorem dL_law_1301 : decode cL_law 1301 = .ok (.iadd, 1) := by decide +kernel
theorem dL_law_1302 : decode cL_law 1302 = .ok (.iaload, 1) := by decide +kernel
theorem dL_law_1303 : decode cL_law 1303 = .ok (.aload_n 3, 1) := by decide +kernel
theorem dL_law_1304 : decode cL_law 1304 = .ok (.invokestatic 175, 3) := by decide +kernel
theorem dL_law_1307 : decode cL_law 1307 = .ok (.istore 5, 2) := by decide +kernel
theorem dL_law_1309 : decode cL_law 1309 = .ok (.aload_n 2, 1) := by decide +kernel
theorem dL_law_1310 : decode cL_law 1310 = .ok (.aload_n 0, 1) := by decide +kernel
theorem dL_law_1311 : decode cL_law 1311 = .ok (.iload 4, 2) := by decide +kernel
theorem dL_law_1313 : decode cL_law 1313 = .ok (.iconst 1, 1) := by decide +kernel
theorem dL_law_1314 : decode cL_law 1314 = .ok (.iadd, 1) := by decide +kernel
theorem dL_law_1315 : decode cL_law 1315 = .ok (.iaload, 1) := by decide +kernel
theorem dL_law_1316 : decode cL_law 1316 = .ok (.aload_n 0, 1) := by decide +kernel
theorem dL_law_1317 : decode cL_law 1317 = .ok (.iload 4, 2) := by decide +kernel
theorem dL_law_1319 : decode cL_law 1319 = .ok (.iconst 2, 1) := by decide +kernel
theorem dL_law_1320 : decode cL_law 1320 = .ok (.iadd, 1) := by decide +kernel
theorem dL_law_1321 : decode cL_law 1321 = .ok (.iaload, 1) := by decide +kernel
theorem dL_law_1322 : decode cL_law 1322 = .ok (.invokevirtual 177, 3) := by decide +kernel
theorem dL_law_1325 : decode cL_law 1325 = .ok (.istore 6, 2) := by decide +kernel
theorem dL_law_1327 : decode cL_law 1327 = .ok (.aload_n 2, 1) := by decide +kernel
theorem dL_law_1328 : decode cL_law 1328 = .ok (.invokevirtual 122, 3) := by decide +kernel
theorem dL_law_1331 : decode cL_law 1331 = .ok (.iload 5, 2) := by decide +kernel
theorem dL_law_1333 : decode cL_law 1333 = .ok (.if_icmp .eq 5, 3) := by decide +kernel
theorem dL_law_1336 : decode cL_law 1336 = .ok (.iconst 0, 1) := by decide +kernel
theorem dL_law_1337 : decode cL_law 1337 = .ok (.ireturn, 1) := by decide +kernel
theorem dL_law_1338 : decode cL_law 1338 = .ok (.iload 5, 2) := by decide +kernel
theorem dL_law_1340 : decode cL_law 1340 = .ok (.ifCond .ne 15, 3) := by decide +kernel
theorem dL_law_1343 : decode cL_law 1343 = .ok (.aload_n 3, 1) := by decide +kernel
theorem dL_law_1344 : decode cL_law 1344 = .ok (.iconst 0, 1) := by decide +kernel
theorem dL_law_1345 : decode cL_law 1345 = .ok (.laload, 1) := by decide +kernel
theorem dL_law_1346 : decode cL_law 1346 = .ok (.iload 6, 2) := by decide +kernel
theorem dL_law_1348 : decode cL_law 1348 = .ok (.i2l, 1) := by decide +kernel
theorem dL_law_1349 : decode cL_law 1349 = .ok (.lcmp, 1) := by decide +kernel
theorem dL_law_1350 : decode cL_law 1350 = .ok (.ifCond .eq 5, 3) := by decide +kernel
theorem dL_law_1353 : decode cL_law 1353 = .ok (.iconst 0, 1) := by decide +kernel
theorem dL_law_1354 : decode cL_law 1354 = .ok (.ireturn, 1) := by decide +kernel
theorem dL_law_1355 : decode cL_law 1355 = .ok (.goto 696, 3) := by decide +kernel
theorem dL_law_1358 : decode cL_law 1358 = .ok (.aload_n 1, 1) := by decide +kernel
theorem dL_law_1359 : decode cL_law 1359 = .ok (.aload_n 0, 1) := by decide +kernel
theorem dL_law_1360 : decode cL_law 1360 = .ok (.iload 4, 2) := by decide +kernel
theorem dL_law_1362 : decode cL_law 1362 = .ok (.iconst 1, 1) := by decide +kernel
theorem dL_law_1363 : decode cL_law 1363 = .ok (.iadd, 1) := by decide +kernel
theorem dL_law_1364 : decode cL_law 1364 = .ok (.iaload, 1) := by decide +kernel
theorem dL_law_1365 : decode cL_law 1365 = .ok (.aload_n 3, 1) := by decide +kernel
theorem dL_law_1366 : decode cL_law 1366 = .ok (.invokestatic 178, 3) := by decide +kernel
theorem dL_law_1369 : decode cL_law 1369 = .ok (.istore 5, 2) := by decide +kernel
theorem dL_law_1371 : decode cL_law 1371 = .ok (.aload_n 2, 1) := by decide +kernel
theorem dL_law_1372 : decode cL_law 1372 = .ok (.aload_n 0, 1) := by decide +kernel
theorem dL_law_1373 : decode cL_law 1373 = .ok (.iload 4, 2) := by decide +kernel
theorem dL_law_1375 : decode cL_law 1375 = .ok (.iconst 1, 1) := by decide +kernel
theorem dL_law_1376 : decode cL_law 1376 = .ok (.iadd, 1) := by decide +kernel
theorem dL_law_1377 : decode cL_law 1377 = .ok (.iaload, 1) := by decide +kernel
theorem dL_law_1378 : decode cL_law 1378 = .ok (.invokevirtual 180, 3) := by decide +kernel
theorem dL_law_1381 : decode cL_law 1381 = .ok (.istore 6, 2) := by decide +kernel
theorem dL_law_1383 : decode cL_law 1383 = .ok (.aload_n 2, 1) := by decide +kernel
theorem dL_law_1384 : decode cL_law 1384 = .ok (.invokevirtual 122, 3) := by decide +kernel
theorem dL_law_1387 : decode cL_law 1387 = .ok (.iload 5, 2) := by decide +kernel
theorem dL_law_1389 : decode cL_law 1389 = .ok (.if_icmp .eq 5, 3) := by decide +kernel
theorem dL_law_1392 : decode cL_law 1392 = .ok (.iconst 0, 1) := by decide +kernel
theorem dL_law_1393 : decode cL_law 1393 = .ok (.ireturn, 1) := by decide +kernel
theorem dL_law_1394 : decode cL_law 1394 = .ok (.iload 5, 2) := by decide +kernel
theorem dL_law_1396 : decode cL_law 1396 = .ok (.ifCond .ne 15, 3) := by decide +kernel
theorem dL_law_1399 : decode cL_law 1399 = .ok (.aload_n 3, 1) := by decide +kernel
theorem dL_law_1400 : decode cL_law 1400 = .ok (.iconst 0, 1) := by decide +kernel
theorem dL_law_1401 : decode cL_law 1401 = .ok (.laload, 1) := by decide +kernel
theorem dL_law_1402 : decode cL_law 1402 = .ok (.iload 6, 2) := by decide +kernel
theorem dL_law_1404 : decode cL_law 1404 = .ok (.i2l, 1) := by decide +kernel
theorem dL_law_1405 : decode cL_law 1405 = .ok (.lcmp, 1) := by decide +kernel
theorem dL_law_1406 : decode cL_law 1406 = .ok (.ifCond .eq 5, 3) := by decide +kernel
theorem dL_law_1409 : decode cL_law 1409 = .ok (.iconst 0, 1) := by decide +kernel
theorem dL_law_1410 : decode cL_law 1410 = .ok (.ireturn, 1) := by decide +kernel
theorem dL_law_1411 : decode cL_law 1411 = .ok (.goto 640, 3) := by decide +kernel
theorem dL_law_1414 : decode cL_law 1414 = .ok (.aload_n 1, 1) := by decide +kernel
theorem dL_law_1415 : decode cL_law 1415 = .ok (.aload_n 0, 1) := by decide +kernel
theorem dL_law_1416 : decode cL_law 1416 = .ok (.iload 4, 2) := by decide +kernel
theorem dL_law_1418 : decode cL_law 1418 = .ok (.iconst 1, 1) := by decide +kernel
theorem dL_law_1419 : decode cL_law 1419 = .ok (.iadd, 1) := by decide +kernel
theorem dL_law_1420 : decode cL_law 1420 = .ok (.iaload, 1) := by decide +kernel
theorem dL_law_1421 : decode cL_law 1421 = .ok (.aload_n 0, 1) := by decide +kernel
theorem dL_law_1422 : decode cL_law 1422 = .ok (.iload 4, 2) := by decide +kernel
theorem dL_law_1424 : decode cL_law 1424 = .ok (.iconst 2, 1) := by decide +kernel
theorem dL_law_1425 : decode cL_law 1425 = .ok (.iadd, 1) := by decide +kernel
theorem dL_law_1426 : decode cL_law 1426 = .ok (.iaload, 1) := by decide +kernel
theorem dL_law_1427 : decode cL_law 1427 = .ok (.aload_n 3, 1) := by decide +kernel
theorem dL_law_1428 : decode cL_law 1428 = .ok (.invokestatic 181, 3) := by decide +kernel
theorem dL_law_1431 : decode cL_law 1431 = .ok (.istore 5, 2) := by decide +kernel
theorem dL_law_1433 : decode cL_law 1433 = .ok (.aload_n 2, 1) := by decide +kernel
theorem dL_law_1434 : decode cL_law 1434 = .ok (.aload_n 0, 1) := by decide +kernel
theorem dL_law_1435 : decode cL_law 1435 = .ok (.iload 4, 2) := by decide +kernel
theorem dL_law_1437 : decode cL_law 1437 = .ok (.iconst 1, 1) := by decide +kernel
theorem dL_law_1438 : decode cL_law 1438 = .ok (.iadd, 1) := by decide +kernel
theorem dL_law_1439 : decode cL_law 1439 = .ok (.iaload, 1) := by decide +kernel
theorem dL_law_1440 : decode cL_law 1440 = .ok (.aload_n 0, 1) := by decide +kernel
theorem dL_law_1441 : decode cL_law 1441 = .ok (.iload 4, 2) := by decide +kernel
theorem dL_law_1443 : decode cL_law 1443 = .ok (.iconst 2, 1) := by decide +kernel
theorem dL_law_1444 : decode cL_law 1444 = .ok (.iadd, 1) := by decide +kernel
theorem dL_law_1445 : decode cL_law 1445 = .ok (.iaload, 1) := by decide +kernel
theorem dL_law_1446 : decode cL_law 1446 = .ok (.invokevirtual 183, 3) := by decide +kernel
theorem dL_law_1449 : decode cL_law 1449 = .ok (.istore 6, 2) := by decide +kernel
theorem dL_law_1451 : decode cL_law 1451 = .ok (.aload_n 2, 1) := by decide +kernel
theorem dL_law_1452 : decode cL_law 1452 = .ok (.invokevirtual 122, 3) := by decide +kernel
theorem dL_law_1455 : decode cL_law 1455 = .ok (.iload 5, 2) := by decide +kernel
theorem dL_law_1457 : decode cL_law 1457 = .ok (.if_icmp .eq 5, 3) := by decide +kernel
theorem dL_law_1460 : decode cL_law 1460 = .ok (.iconst 0, 1) := by decide +kernel
theorem dL_law_1461 : decode cL_law 1461 = .ok (.ireturn, 1) := by decide +kernel
theorem dL_law_1462 : decode cL_law 1462 = .ok (.iload 5, 2) := by decide +kernel
theorem dL_law_1464 : decode cL_law 1464 = .ok (.ifCond .ne 15, 3) := by decide +kernel
theorem dL_law_1467 : decode cL_law 1467 = .ok (.aload_n 3, 1) := by decide +kernel
theorem dL_law_1468 : decode cL_law 1468 = .ok (.iconst 0, 1) := by decide +kernel
theorem dL_law_1469 : decode cL_law 1469 = .ok (.laload, 1) := by decide +kernel
theorem dL_law_1470 : decode cL_law 1470 = .ok (.iload 6, 2) := by decide +kernel
theorem dL_law_1472 : decode cL_law 1472 = .ok (.i2l, 1) := by decide +kernel
theorem dL_law_1473 : decode cL_law 1473 = .ok (.lcmp, 1) := by decide +kernel
theorem dL_law_1474 : decode cL_law 1474 = .ok (.ifCond .eq 5, 3) := by decide +kernel
theorem dL_law_1477 : decode cL_law 1477 = .ok (.iconst 0, 1) := by decide +kernel
theorem dL_law_1478 : decode cL_law 1478 = .ok (.ireturn, 1) := by decide +kernel
theorem dL_law_1479 : decode cL_law 1479 = .ok (.goto 572, 3) := by decide +kernel
theorem dL_law_1482 : decode cL_law 1482 = .ok (.aload_n 1, 1) := by decide +kernel
theorem dL_law_1483 : decode cL_law 1483 = .ok (.aload_n 0, 1) := by decide +kernel
theorem dL_law_1484 : decode cL_law 1484 = .ok (.iload 4, 2) := by decide +kernel
theorem dL_law_1486 : decode cL_law 1486 = .ok (.iconst 1, 1) := by decide +kernel
theorem dL_law_1487 : decode cL_law 1487 = .ok (.iadd, 1) := by decide +kernel
theorem dL_law_1488 : decode cL_law 1488 = .ok (.iaload, 1) := by decide +kernel
theorem dL_law_1489 : decode cL_law 1489 = .ok (.aload_n 3, 1) := by decide +kernel
theorem dL_law_1490 : decode cL_law 1490 = .ok (.invokestatic 184, 3) := by decide +kernel
theorem dL_law_1493 : decode cL_law 1493 = .ok (.istore 5, 2) := by decide +kernel
theorem dL_law_1495 : decode cL_law 1495 = .ok (.aload_n 2, 1) := by decide +kernel
theorem dL_law_1496 : decode cL_law 1496 = .ok (.aload_n 0, 1) := by decide +kernel
theorem dL_law_1497 : decode cL_law 1497 = .ok (.iload 4, 2) := by decide +kernel
theorem dL_law_1499 : decode cL_law 1499 = .ok (.iconst 1, 1) := by decide +kernel
theorem dL_law_1500 : decode cL_law 1500 = .ok (.iadd, 1) := by decide +kernel
theorem dL_law_1501 : decode cL_law 1501 = .ok (.iaload, 1) := by decide +kernel
theorem dL_law_1502 : decode cL_law 1502 = .ok (.invokevirtual 186, 3) := by decide +kernel
theorem dL_law_1505 : decode cL_law 1505 = .ok (.istore 6, 2) := by decide +kernel
theorem dL_law_1507 : decode cL_law 1507 = .ok (.aload_n 2, 1) := by decide +kernel
theorem dL_law_1508 : decode cL_law 1508 = .ok (.invokevirtual 122, 3) := by decide +kernel
theorem dL_law_1511 : decode cL_law 1511 = .ok (.iload 5, 2) := by decide +kernel
theorem dL_law_1513 : decode cL_law 1513 = .ok (.if_icmp .eq 5, 3) := by decide +kernel
theorem dL_law_1516 : decode cL_law 1516 = .ok (.iconst 0, 1) := by decide +kernel
theorem dL_law_1517 : decode cL_law 1517 = .ok (.ireturn, 1) := by decide +kernel
theorem dL_law_1518 : decode cL_law 1518 = .ok (.iload 5, 2) := by decide +kernel
theorem dL_law_1520 : decode cL_law 1520 = .ok (.ifCond .ne 15, 3) := by decide +kernel
theorem dL_law_1523 : decode cL_law 1523 = .ok (.aload_n 3, 1) := by decide +kernel
theorem dL_law_1524 : decode cL_law 1524 = .ok (.iconst 0, 1) := by decide +kernel
theorem dL_law_1525 : decode cL_law 1525 = .ok (.laload, 1) := by decide +kernel
theorem dL_law_1526 : decode cL_law 1526 = .ok (.iload 6, 2) := by decide +kernel
theorem dL_law_1528 : decode cL_law 1528 = .ok (.i2l, 1) := by decide +kernel
theorem dL_law_1529 : decode cL_law 1529 = .ok (.lcmp, 1) := by decide +kernel
theorem dL_law_1530 : decode cL_law 1530 = .ok (.ifCond .eq 5, 3) := by decide +kernel
theorem dL_law_1533 : decode cL_law 1533 = .ok (.iconst 0, 1) := by decide +kernel
theorem dL_law_1534 : decode cL_law 1534 = .ok (.ireturn, 1) := by decide +kernel
theorem dL_law_1535 : decode cL_law 1535 = .ok (.goto 516, 3) := by decide +kernel
theorem dL_law_1538 : decode cL_law 1538 = .ok (.aload_n 1, 1) := by decide +kernel
theorem dL_law_1539 : decode cL_law 1539 = .ok (.aload_n 0, 1) := by decide +kernel
theorem dL_law_1540 : decode cL_law 1540 = .ok (.iload 4, 2) := by decide +kernel
theorem dL_law_1542 : decode cL_law 1542 = .ok (.iconst 1, 1) := by decide +kernel
theorem dL_law_1543 : decode cL_law 1543 = .ok (.iadd, 1) := by decide +kernel
theorem dL_law_1544 : decode cL_law 1544 = .ok (.iaload, 1) := by decide +kernel
theorem dL_law_1545 : decode cL_law 1545 = .ok (.aload_n 3, 1) := by decide +kernel
theorem dL_law_1546 : decode cL_law 1546 = .ok (.invokestatic 187, 3) := by decide +kernel
theorem dL_law_1549 : decode cL_law 1549 = .ok (.istore 5, 2) := by decide +kernel
theorem dL_law_1551 : decode cL_law 1551 = .ok (.aload_n 2, 1) := by decide +kernel
theorem dL_law_1552 : decode cL_law 1552 = .ok (.aload_n 0, 1) := by decide +kernel
theorem dL_law_1553 : decode cL_law 1553 = .ok (.iload 4, 2) := by decide +kernel
theorem dL_law_1555 : decode cL_law 1555 = .ok (.iconst 1, 1) := by decide +kernel
theorem dL_law_1556 : decode cL_law 1556 = .ok (.iadd, 1) := by decide +kernel
theorem dL_law_1557 : decode cL_law 1557 = .ok (.iaload, 1) := by decide +kernel
theorem dL_law_1558 : decode cL_law 1558 = .ok (.invokevirtual 189, 3) := by decide +kernel
theorem dL_law_1561 : decode cL_law 1561 = .ok (.istore 6, 2) := by decide +kernel
theorem dL_law_1563 : decode cL_law 1563 = .ok (.aload_n 2, 1) := by decide +kernel
theorem dL_law_1564 : decode cL_law 1564 = .ok (.invokevirtual 122, 3) := by decide +kernel
theorem dL_law_1567 : decode cL_law 1567 = .ok (.iload 5, 2) := by decide +kernel
theorem dL_law_1569 : decode cL_law 1569 = .ok (.if_icmp .eq 5, 3) := by decide +kernel
theorem dL_law_1572 : decode cL_law 1572 = .ok (.iconst 0, 1) := by decide +kernel
theorem dL_law_1573 : decode cL_law 1573 = .ok (.ireturn, 1) := by decide +kernel
theorem dL_law_1574 : decode cL_law 1574 = .ok (.iload 5, 2) := by decide +kernel
theorem dL_law_1576 : decode cL_law 1576 = .ok (.ifCond .ne 15, 3) := by decide +kernel
theorem dL_law_1579 : decode cL_law 1579 = .ok (.aload_n 3, 1) := by decide +kernel
theorem dL_law_1580 : decode cL_law 1580 = .ok (.iconst 0, 1) := by decide +kernel
theorem dL_law_1581 : decode cL_law 1581 = .ok (.laload, 1) := by decide +kernel
theorem dL_law_1582 : decode cL_law 1582 = .ok (.iload 6, 2) := by decide +kernel
theorem dL_law_1584 : decode cL_law 1584 = .ok (.i2l, 1) := by decide +kernel
theorem dL_law_1585 : decode cL_law 1585 = .ok (.lcmp, 1) := by decide +kernel
theorem dL_law_1586 : decode cL_law 1586 = .ok (.ifCond .eq 5, 3) := by decide +kernel
theorem dL_law_1589 : decode cL_law 1589 = .ok (.iconst 0, 1) := by decide +kernel
theorem dL_law_1590 : decode cL_law 1590 = .ok (.ireturn, 1) := by decide +kernel
theorem dL_law_1591 : decode cL_law 1591 = .ok (.goto 460, 3) := by decide +kernel
theorem dL_law_1594 : decode cL_law 1594 = .ok (.aload_n 1, 1) := by decide +kernel
theorem dL_law_1595 : decode cL_law 1595 = .ok (.aload_n 3, 1) := by decide +kernel
theorem dL_law_1596 : decode cL_law 1596 = .ok (.invokestatic 190, 3) := by decide +kernel
theorem dL_law_1599 : decode cL_law 1599 = .ok (.istore 5, 2) := by decide +kernel
theorem dL_law_1601 : decode cL_law 1601 = .ok (.aload_n 2, 1) := by decide +kernel
theorem dL_law_1602 : decode cL_law 1602 = .ok (.invokevirtual 192, 3) := by decide +kernel
theorem dL_law_1605 : decode cL_law 1605 = .ok (.istore 6, 2) := by decide +kernel
theorem dL_law_1607 : decode cL_law 1607 = .ok (.aload_n 2, 1) := by decide +kernel
theorem dL_law_1608 : decode cL_law 1608 = .ok (.invokevirtual 122, 3) := by decide +kernel
theorem dL_law_1611 : decode cL_law 1611 = .ok (.iload 5, 2) := by decide +kernel
theorem dL_law_1613 : decode cL_law 1613 = .ok (.if_icmp .eq 5, 3) := by decide +kernel
theorem dL_law_1616 : decode cL_law 1616 = .ok (.iconst 0, 1) := by decide +kernel
theorem dL_law_1617 : decode cL_law 1617 = .ok (.ireturn, 1) := by decide +kernel
theorem dL_law_1618 : decode cL_law 1618 = .ok (.iload 5, 2) := by decide +kernel
theorem dL_law_1620 : decode cL_law 1620 = .ok (.ifCond .ne 15, 3) := by decide +kernel
theorem dL_law_1623 : decode cL_law 1623 = .ok (.aload_n 3, 1) := by decide +kernel
theorem dL_law_1624 : decode cL_law 1624 = .ok (.iconst 0, 1) := by decide +kernel
theorem dL_law_1625 : decode cL_law 1625 = .ok (.laload, 1) := by decide +kernel
theorem dL_law_1626 : decode cL_law 1626 = .ok (.iload 6, 2) := by decide +kernel
theorem dL_law_1628 : decode cL_law 1628 = .ok (.i2l, 1) := by decide +kernel
theorem dL_law_1629 : decode cL_law 1629 = .ok (.lcmp, 1) := by decide +kernel
theorem dL_law_1630 : decode cL_law 1630 = .ok (.ifCond .eq 5, 3) := by decide +kernel
theorem dL_law_1633 : decode cL_law 1633 = .ok (.iconst 0, 1) := by decide +kernel
theorem dL_law_1634 : decode cL_law 1634 = .ok (.ireturn, 1) := by decide +kernel
theorem dL_law_1635 : decode cL_law 1635 = .ok (.goto 416, 3) := by decide +kernel
theorem dL_law_1638 : decode cL_law 1638 = .ok (.aload_n 1, 1) := by decide +kernel
theorem dL_law_1639 : decode cL_law 1639 = .ok (.aload_n 3, 1) := by decide +kernel
theorem dL_law_1640 : decode cL_law 1640 = .ok (.invokestatic 193, 3) := by decide +kernel
theorem dL_law_1643 : decode cL_law 1643 = .ok (.istore 5, 2) := by decide +kernel
theorem dL_law_1645 : decode cL_law 1645 = .ok (.aload_n 2, 1) := by decide +kernel
theorem dL_law_1646 : decode cL_law 1646 = .ok (.invokevirtual 195, 3) := by decide +kernel
theorem dL_law_1649 : decode cL_law 1649 = .ok (.istore 6, 2) := by decide +kernel
theorem dL_law_1651 : decode cL_law 1651 = .ok (.aload_n 2, 1) := by decide +kernel
theorem dL_law_1652 : decode cL_law 1652 = .ok (.invokevirtual 122, 3) := by decide +kernel
theorem dL_law_1655 : decode cL_law 1655 = .ok (.iload 5, 2) := by decide +kernel
theorem dL_law_1657 : decode cL_law 1657 = .ok (.if_icmp .eq 5, 3) := by decide +kernel
theorem dL_law_1660 : decode cL_law 1660 = .ok (.iconst 0, 1) := by decide +kernel
theorem dL_law_1661 : decode cL_law 1661 = .ok (.ireturn, 1) := by decide +kernel
theorem dL_law_1662 : decode cL_law 1662 = .ok (.iload 5, 2) := by decide +kernel
theorem dL_law_1664 : decode cL_law 1664 = .ok (.ifCond .ne 15, 3) := by decide +kernel
theorem dL_law_1667 : decode cL_law 1667 = .ok (.aload_n 3, 1) := by decide +kernel
theorem dL_law_1668 : decode cL_law 1668 = .ok (.iconst 0, 1) := by decide +kernel
theorem dL_law_1669 : decode cL_law 1669 = .ok (.laload, 1) := by decide +kernel
theorem dL_law_1670 : decode cL_law 1670 = .ok (.iload 6, 2) := by decide +kernel
theorem dL_law_1672 : decode cL_law 1672 = .ok (.i2l, 1) := by decide +kernel
theorem dL_law_1673 : decode cL_law 1673 = .ok (.lcmp, 1) := by decide +kernel
theorem dL_law_1674 : decode cL_law 1674 = .ok (.ifCond .eq 5, 3) := by decide +kernel
theorem dL_law_1677 : decode cL_law 1677 = .ok (.iconst 0, 1) := by decide +kernel
theorem dL_law_1678 : decode cL_law 1678 = .ok (.ireturn, 1) := by decide +kernel
theorem dL_law_1679 : decode cL_law 1679 = .ok (.goto 372, 3) := by decide +kernel
theorem dL_law_1682 : decode cL_law 1682 = .ok (.aload_n 1, 1) := by decide +kernel
theorem dL_law_1683 : decode cL_law 1683 = .ok (.aload_n 0, 1) := by decide +kernel
theorem dL_law_1684 : decode cL_law 1684 = .ok (.iload 4, 2) := by decide +kernel
theorem dL_law_1686 : decode cL_law 1686 = .ok (.iconst 1, 1) := by decide +kernel
theorem dL_law_1687 : decode cL_law 1687 = .ok (.iadd, 1) := by decide +kernel
theorem dL_law_1688 : decode cL_law 1688 = .ok (.iaload, 1) := by decide +kernel
theorem dL_law_1689 : decode cL_law 1689 = .ok (.aload_n 3, 1) := by decide +kernel
theorem dL_law_1690 : decode cL_law 1690 = .ok (.invokestatic 196, 3) := by decide +kernel
theorem dL_law_1693 : decode cL_law 1693 = .ok (.istore 5, 2) := by decide +kernel
theorem dL_law_1695 : decode cL_law 1695 = .ok (.aload_n 2, 1) := by decide +kernel
theorem dL_law_1696 : decode cL_law 1696 = .ok (.aload_n 0, 1) := by decide +kernel
theorem dL_law_1697 : decode cL_law 1697 = .ok (.iload 4, 2) := by decide +kernel
theorem dL_law_1699 : decode cL_law 1699 = .ok (.iconst 1, 1) := by decide +kernel
theorem dL_law_1700 : decode cL_law 1700 = .ok (.iadd, 1) := by decide +kernel
theorem dL_law_1701 : decode cL_law 1701 = .ok (.iaload, 1) := by decide +kernel
theorem dL_law_1702 : decode cL_law 1702 = .ok (.invokevirtual 198, 3) := by decide +kernel
theorem dL_law_1705 : decode cL_law 1705 = .ok (.istore 6, 2) := by decide +kernel
theorem dL_law_1707 : decode cL_law 1707 = .ok (.aload_n 2, 1) := by decide +kernel
theorem dL_law_1708 : decode cL_law 1708 = .ok (.invokevirtual 122, 3) := by decide +kernel
theorem dL_law_1711 : decode cL_law 1711 = .ok (.iload 5, 2) := by decide +kernel
theorem dL_law_1713 : decode cL_law 1713 = .ok (.if_icmp .eq 5, 3) := by decide +kernel
theorem dL_law_1716 : decode cL_law 1716 = .ok (.iconst 0, 1) := by decide +kernel
theorem dL_law_1717 : decode cL_law 1717 = .ok (.ireturn, 1) := by decide +kernel
theorem dL_law_1718 : decode cL_law 1718 = .ok (.iload 5, 2) := by decide +kernel
theorem dL_law_1720 : decode cL_law 1720 = .ok (.ifCond .ne 15, 3) := by decide +kernel
theorem dL_law_1723 : decode cL_law 1723 = .ok (.aload_n 3, 1) := by decide +kernel
theorem dL_law_1724 : decode cL_law 1724 = .ok (.iconst 0, 1) := by decide +kernel
theorem dL_law_1725 : decode cL_law 1725 = .ok (.laload, 1) := by decide +kernel
theorem dL_law_1726 : decode cL_law 1726 = .ok (.iload 6, 2) := by decide +kernel
theorem dL_law_1728 : decode cL_law 1728 = .ok (.i2l, 1) := by decide +kernel
theorem dL_law_1729 : decode cL_law 1729 = .ok (.lcmp, 1) := by decide +kernel
theorem dL_law_1730 : decode cL_law 1730 = .ok (.ifCond .eq 5, 3) := by decide +kernel
theorem dL_law_1733 : decode cL_law 1733 = .ok (.iconst 0, 1) := by decide +kernel
theorem dL_law_1734 : decode cL_law 1734 = .ok (.ireturn, 1) := by decide +kernel
theorem dL_law_1735 : decode cL_law 1735 = .ok (.goto 316, 3) := by decide +kernel
theorem dL_law_1738 : decode cL_law 1738 = .ok (.aload_n 1, 1) := by decide +kernel
theorem dL_law_1739 : decode cL_law 1739 = .ok (.aload_n 0, 1) := by decide +kernel
theorem dL_law_1740 : decode cL_law 1740 = .ok (.iload 4, 2) := by decide +kernel
theorem dL_law_1742 : decode cL_law 1742 = .ok (.iconst 1, 1) := by decide +kernel
theorem dL_law_1743 : decode cL_law 1743 = .ok (.iadd, 1) := by decide +kernel
theorem dL_law_1744 : decode cL_law 1744 = .ok (.iaload, 1) := by decide +kernel
theorem dL_law_1745 : decode cL_law 1745 = .ok (.aload_n 3, 1) := by decide +kernel
theorem dL_law_1746 : decode cL_law 1746 = .ok (.invokestatic 199, 3) := by decide +kernel
theorem dL_law_1749 : decode cL_law 1749 = .ok (.istore 5, 2) := by decide +kernel
theorem dL_law_1751 : decode cL_law 1751 = .ok (.aload_n 2, 1) := by decide +kernel
theorem dL_law_1752 : decode cL_law 1752 = .ok (.aload_n 0, 1) := by decide +kernel
theorem dL_law_1753 : decode cL_law 1753 = .ok (.iload 4, 2) := by decide +kernel
theorem dL_law_1755 : decode cL_law 1755 = .ok (.iconst 1, 1) := by decide +kernel
theorem dL_law_1756 : decode cL_law 1756 = .ok (.iadd, 1) := by decide +kernel
theorem dL_law_1757 : decode cL_law 1757 = .ok (.iaload, 1) := by decide +kernel
theorem dL_law_1758 : decode cL_law 1758 = .ok (.invokevirtual 201, 3) := by decide +kernel
theorem dL_law_1761 : decode cL_law 1761 = .ok (.istore 6, 2) := by decide +kernel
theorem dL_law_1763 : decode cL_law 1763 = .ok (.aload_n 2, 1) := by decide +kernel
theorem dL_law_1764 : decode cL_law 1764 = .ok (.invokevirtual 122, 3) := by decide +kernel
theorem dL_law_1767 : decode cL_law 1767 = .ok (.iload 5, 2) := by decide +kernel
theorem dL_law_1769 : decode cL_law 1769 = .ok (.if_icmp .eq 5, 3) := by decide +kernel
theorem dL_law_1772 : decode cL_law 1772 = .ok (.iconst 0, 1) := by decide +kernel
theorem dL_law_1773 : decode cL_law 1773 = .ok (.ireturn, 1) := by decide +kernel
theorem dL_law_1774 : decode cL_law 1774 = .ok (.iload 5, 2) := by decide +kernel
theorem dL_law_1776 : decode cL_law 1776 = .ok (.ifCond .ne 15, 3) := by decide +kernel
theorem dL_law_1779 : decode cL_law 1779 = .ok (.aload_n 3, 1) := by decide +kernel
theorem dL_law_1780 : decode cL_law 1780 = .ok (.iconst 0, 1) := by decide +kernel
theorem dL_law_1781 : decode cL_law 1781 = .ok (.laload, 1) := by decide +kernel
theorem dL_law_1782 : decode cL_law 1782 = .ok (.iload 6, 2) := by decide +kernel
theorem dL_law_1784 : decode cL_law 1784 = .ok (.i2l, 1) := by decide +kernel
theorem dL_law_1785 : decode cL_law 1785 = .ok (.lcmp, 1) := by decide +kernel
theorem dL_law_1786 : decode cL_law 1786 = .ok (.ifCond .eq 5, 3) := by decide +kernel
theorem dL_law_1789 : decode cL_law 1789 = .ok (.iconst 0, 1) := by decide +kernel
theorem dL_law_1790 : decode cL_law 1790 = .ok (.ireturn, 1) := by decide +kernel
theorem dL_law_1791 : decode cL_law 1791 = .ok (.goto 260, 3) := by decide +kernel
theorem dL_law_1794 : decode cL_law 1794 = .ok (.aload_n 1, 1) := by decide +kernel
theorem dL_law_1795 : decode cL_law 1795 = .ok (.aload_n 0, 1) := by decide +kernel
theorem dL_law_1796 : decode cL_law 1796 = .ok (.iload 4, 2) := by decide +kernel
theorem dL_law_1798 : decode cL_law 1798 = .ok (.iconst 1, 1) := by decide +kernel
theorem dL_law_1799 : decode cL_law 1799 = .ok (.iadd, 1) := by decide +kernel
theorem dL_law_1800 : decode cL_law 1800 = .ok (.iaload, 1) := by decide +kernel
theorem dL_law_1801 : decode cL_law 1801 = .ok (.invokevirtual 202, 3) := by decide +kernel
theorem dL_law_1804 : decode cL_law 1804 = .ok (.aload_n 2, 1) := by decide +kernel
theorem dL_law_1805 : decode cL_law 1805 = .ok (.aload_n 0, 1) := by decide +kernel
theorem dL_law_1806 : decode cL_law 1806 = .ok (.iload 4, 2) := by decide +kernel
theorem dL_law_1808 : decode cL_law 1808 = .ok (.iconst 1, 1) := by decide +kernel
theorem dL_law_1809 : decode cL_law 1809 = .ok (.iadd, 1) := by decide +kernel
theorem dL_law_1810 : decode cL_law 1810 = .ok (.iaload, 1) := by decide +kernel
theorem dL_law_1811 : decode cL_law 1811 = .ok (.invokevirtual 205, 3) := by decide +kernel
theorem dL_law_1814 : decode cL_law 1814 = .ok (.if_icmp .eq 237, 3) := by decide +kernel
theorem dL_law_1817 : decode cL_law 1817 = .ok (.iconst 0, 1) := by decide +kernel
theorem dL_law_1818 : decode cL_law 1818 = .ok (.ireturn, 1) := by decide +kernel
theorem dL_law_1819 : decode cL_law 1819 = .ok (.aload_n 1, 1) := by decide +kernel
theorem dL_law_1820 : decode cL_law 1820 = .ok (.aload_n 3, 1) := by decide +kernel
theorem dL_law_1821 : decode cL_law 1821 = .ok (.invokestatic 206, 3) := by decide +kernel
theorem dL_law_1824 : decode cL_law 1824 = .ok (.istore 5, 2) := by decide +kernel
theorem dL_law_1826 : decode cL_law 1826 = .ok (.aload_n 2, 1) := by decide +kernel
theorem dL_law_1827 : decode cL_law 1827 = .ok (.invokevirtual 208, 3) := by decide +kernel
theorem dL_law_1830 : decode cL_law 1830 = .ok (.istore 6, 2) := by decide +kernel
theorem dL_law_1832 : decode cL_law 1832 = .ok (.aload_n 2, 1) := by decide +kernel
theorem dL_law_1833 : decode cL_law 1833 = .ok (.invokevirtual 122, 3) := by decide +kernel
theorem dL_law_1836 : decode cL_law 1836 = .ok (.iload 5, 2) := by decide +kernel
theorem dL_law_1838 : decode cL_law 1838 = .ok (.if_icmp .eq 5, 3) := by decide +kernel
theorem dL_law_1841 : decode cL_law 1841 = .ok (.iconst 0, 1) := by decide +kernel
theorem dL_law_1842 : decode cL_law 1842 = .ok (.ireturn, 1) := by decide +kernel
theorem dL_law_1843 : decode cL_law 1843 = .ok (.iload 5, 2) := by decide +kernel
theorem dL_law_1845 : decode cL_law 1845 = .ok (.ifCond .ne 15, 3) := by decide +kernel
theorem dL_law_1848 : decode cL_law 1848 = .ok (.aload_n 3, 1) := by decide +kernel
theorem dL_law_1849 : decode cL_law 1849 = .ok (.iconst 0, 1) := by decide +kernel
theorem dL_law_1850 : decode cL_law 1850 = .ok (.laload, 1) := by decide +kernel
theorem dL_law_1851 : decode cL_law 1851 = .ok (.iload 6, 2) := by decide +kernel
theorem dL_law_1853 : decode cL_law 1853 = .ok (.i2l, 1) := by decide +kernel
theorem dL_law_1854 : decode cL_law 1854 = .ok (.lcmp, 1) := by decide +kernel
theorem dL_law_1855 : decode cL_law 1855 = .ok (.ifCond .eq 5, 3) := by decide +kernel
theorem dL_law_1858 : decode cL_law 1858 = .ok (.iconst 0, 1) := by decide +kernel
theorem dL_law_1859 : decode cL_law 1859 = .ok (.ireturn, 1) := by decide +kernel
theorem dL_law_1860 : decode cL_law 1860 = .ok (.goto 191, 3) := by decide +kernel
theorem dL_law_1863 : decode cL_law 1863 = .ok (.aload_n 1, 1) := by decide +kernel
theorem dL_law_1864 : decode cL_law 1864 = .ok (.aload_n 0, 1) := by decide +kernel
theorem dL_law_1865 : decode cL_law 1865 = .ok (.iload 4, 2) := by decide +kernel
theorem dL_law_1867 : decode cL_law 1867 = .ok (.iconst 1, 1) := by decide +kernel
theorem dL_law_1868 : decode cL_law 1868 = .ok (.iadd, 1) := by decide +kernel
theorem dL_law_1869 : decode cL_law 1869 = .ok (.iaload, 1) := by decide +kernel
theorem dL_law_1870 : decode cL_law 1870 = .ok (.aload_n 0, 1) := by decide +kernel
theorem dL_law_1871 : decode cL_law 1871 = .ok (.iload 4, 2) := by decide +kernel
theorem dL_law_1873 : decode cL_law 1873 = .ok (.iconst 2, 1) := by decide +kernel
theorem dL_law_1874 : decode cL_law 1874 = .ok (.iadd, 1) := by decide +kernel
theorem dL_law_1875 : decode cL_law 1875 = .ok (.iaload, 1) := by decide +kernel
theorem dL_law_1876 : decode cL_law 1876 = .ok (.invokevirtual 209, 3) := by decide +kernel
theorem dL_law_1879 : decode cL_law 1879 = .ok (.aload_n 2, 1) := by decide +kernel
theorem dL_law_1880 : decode cL_law 1880 = .ok (.aload_n 0, 1) := by decide +kernel
theorem dL_law_1881 : decode cL_law 1881 = .ok (.iload 4, 2) := by decide +kernel
theorem dL_law_1883 : decode cL_law 1883 = .ok (.iconst 1, 1) := by decide +kernel
theorem dL_law_1884 : decode cL_law 1884 = .ok (.iadd, 1) := by decide +kernel
theorem dL_law_1885 : decode cL_law 1885 = .ok (.iaload, 1) := by decide +kernel
theorem dL_law_1886 : decode cL_law 1886 = .ok (.aload_n 0, 1) := by decide +kernel
theorem dL_law_1887 : decode cL_law 1887 = .ok (.iload 4, 2) := by decide +kernel
theorem dL_law_1889 : decode cL_law 1889 = .ok (.iconst 2, 1) := by decide +kernel
theorem dL_law_1890 : decode cL_law 1890 = .ok (.iadd, 1) := by decide +kernel
theorem dL_law_1891 : decode cL_law 1891 = .ok (.iaload, 1) := by decide +kernel
theorem dL_law_1892 : decode cL_law 1892 = .ok (.invokevirtual 212, 3) := by decide +kernel
theorem dL_law_1895 : decode cL_law 1895 = .ok (.if_icmp .eq 156, 3) := by decide +kernel
theorem dL_law_1898 : decode cL_law 1898 = .ok (.iconst 0, 1) := by decide +kernel
theorem dL_law_1899 : decode cL_law 1899 = .ok (.ireturn, 1) := by decide +kernel
theorem dL_law_1900 : decode cL_law 1900 = .ok (.aload_n 1, 1) := by decide +kernel
theorem dL_law_1901 : decode cL_law 1901 = .ok (.aload_n 0, 1) := by decide +kernel
theorem dL_law_1902 : decode cL_law 1902 = .ok (.iload 4, 2) := by decide +kernel
theorem dL_law_1904 : decode cL_law 1904 = .ok (.iconst 1, 1) := by decide +kernel
theorem dL_law_1905 : decode cL_law 1905 = .ok (.iadd, 1) := by decide +kernel
theorem dL_law_1906 : decode cL_law 1906 = .ok (.iaload, 1) := by decide +kernel
theorem dL_law_1907 : decode cL_law 1907 = .ok (.i2l, 1) := by decide +kernel
theorem dL_law_1908 : decode cL_law 1908 = .ok (.bipush 32, 2) := by decide +kernel
theorem dL_law_1910 : decode cL_law 1910 = .ok (.lshl, 1) := by decide +kernel
theorem dL_law_1911 : decode cL_law 1911 = .ok (.aload_n 0, 1) := by decide +kernel
theorem dL_law_1912 : decode cL_law 1912 = .ok (.iload 4, 2) := by decide +kernel
theorem dL_law_1914 : decode cL_law 1914 = .ok (.iconst 2, 1) := by decide +kernel
theorem dL_law_1915 : decode cL_law 1915 = .ok (.iadd, 1) := by decide +kernel
theorem dL_law_1916 : decode cL_law 1916 = .ok (.iaload, 1) := by decide +kernel
theorem dL_law_1917 : decode cL_law 1917 = .ok (.i2l, 1) := by decide +kernel
theorem dL_law_1918 : decode cL_law 1918 = .ok (.ldc2_w 213, 3) := by decide +kernel
theorem dL_law_1921 : decode cL_law 1921 = .ok (.land, 1) := by decide +kernel
theorem dL_law_1922 : decode cL_law 1922 = .ok (.lor, 1) := by decide +kernel
theorem dL_law_1923 : decode cL_law 1923 = .ok (.invokevirtual 215, 3) := by decide +kernel
theorem dL_law_1926 : decode cL_law 1926 = .ok (.aload_n 2, 1) := by decide +kernel
theorem dL_law_1927 : decode cL_law 1927 = .ok (.aload_n 0, 1) := by decide +kernel
theorem dL_law_1928 : decode cL_law 1928 = .ok (.iload 4, 2) := by decide +kernel
theorem dL_law_1930 : decode cL_law 1930 = .ok (.iconst 1, 1) := by decide +kernel
theorem dL_law_1931 : decode cL_law 1931 = .ok (.iadd, 1) := by decide +kernel
theorem dL_law_1932 : decode cL_law 1932 = .ok (.iaload, 1) := by decide +kernel
theorem dL_law_1933 : decode cL_law 1933 = .ok (.i2l, 1) := by decide +kernel
theorem dL_law_1934 : decode cL_law 1934 = .ok (.bipush 32, 2) := by decide +kernel
theorem dL_law_1936 : decode cL_law 1936 = .ok (.lshl, 1) := by decide +kernel
theorem dL_law_1937 : decode cL_law 1937 = .ok (.aload_n 0, 1) := by decide +kernel
theorem dL_law_1938 : decode cL_law 1938 = .ok (.iload 4, 2) := by decide +kernel
theorem dL_law_1940 : decode cL_law 1940 = .ok (.iconst 2, 1) := by decide +kernel
theorem dL_law_1941 : decode cL_law 1941 = .ok (.iadd, 1) := by decide +kernel
theorem dL_law_1942 : decode cL_law 1942 = .ok (.iaload, 1) := by decide +kernel
theorem dL_law_1943 : decode cL_law 1943 = .ok (.i2l, 1) := by decide +kernel
theorem dL_law_1944 : decode cL_law 1944 = .ok (.ldc2_w 213, 3) := by decide +kernel
theorem dL_law_1947 : decode cL_law 1947 = .ok (.land, 1) := by decide +kernel
theorem dL_law_1948 : decode cL_law 1948 = .ok (.lor, 1) := by decide +kernel
theorem dL_law_1949 : decode cL_law 1949 = .ok (.invokevirtual 219, 3) := by decide +kernel
theorem dL_law_1952 : decode cL_law 1952 = .ok (.if_icmp .eq 99, 3) := by decide +kernel
theorem dL_law_1955 : decode cL_law 1955 = .ok (.iconst 0, 1) := by decide +kernel
theorem dL_law_1956 : decode cL_law 1956 = .ok (.ireturn, 1) := by decide +kernel
theorem dL_law_1957 : decode cL_law 1957 = .ok (.aload_n 1, 1) := by decide +kernel
theorem dL_law_1958 : decode cL_law 1958 = .ok (.aload_n 3, 1) := by decide +kernel
theorem dL_law_1959 : decode cL_law 1959 = .ok (.invokestatic 220, 3) := by decide +kernel
theorem dL_law_1962 : decode cL_law 1962 = .ok (.istore 5, 2) := by decide +kernel
theorem dL_law_1964 : decode cL_law 1964 = .ok (.aload_n 2, 1) := by decide +kernel
theorem dL_law_1965 : decode cL_law 1965 = .ok (.invokevirtual 222, 3) := by decide +kernel
theorem dL_law_1968 : decode cL_law 1968 = .ok (.istore 6, 2) := by decide +kernel
theorem dL_law_1970 : decode cL_law 1970 = .ok (.aload_n 2, 1) := by decide +kernel
theorem dL_law_1971 : decode cL_law 1971 = .ok (.invokevirtual 122, 3) := by decide +kernel
theorem dL_law_1974 : decode cL_law 1974 = .ok (.iload 5, 2) := by decide +kernel
theorem dL_law_1976 : decode cL_law 1976 = .ok (.if_icmp .eq 5, 3) := by decide +kernel
theorem dL_law_1979 : decode cL_law 1979 = .ok (.iconst 0, 1) := by decide +kernel
theorem dL_law_1980 : decode cL_law 1980 = .ok (.ireturn, 1) := by decide +kernel
theorem dL_law_1981 : decode cL_law 1981 = .ok (.iload 5, 2) := by decide +kernel
theorem dL_law_1983 : decode cL_law 1983 = .ok (.ifCond .ne 15, 3) := by decide +kernel
theorem dL_law_1986 : decode cL_law 1986 = .ok (.aload_n 3, 1) := by decide +kernel
theorem dL_law_1987 : decode cL_law 1987 = .ok (.iconst 0, 1) := by decide +kernel
theorem dL_law_1988 : decode cL_law 1988 = .ok (.laload, 1) := by decide +kernel
theorem dL_law_1989 : decode cL_law 1989 = .ok (.iload 6, 2) := by decide +kernel
theorem dL_law_1991 : decode cL_law 1991 = .ok (.i2l, 1) := by decide +kernel
theorem dL_law_1992 : decode cL_law 1992 = .ok (.lcmp, 1) := by decide +kernel
theorem dL_law_1993 : decode cL_law 1993 = .ok (.ifCond .eq 5, 3) := by decide +kernel
theorem dL_law_1996 : decode cL_law 1996 = .ok (.iconst 0, 1) := by decide +kernel
theorem dL_law_1997 : decode cL_law 1997 = .ok (.ireturn, 1) := by decide +kernel
theorem dL_law_1998 : decode cL_law 1998 = .ok (.goto 53, 3) := by decide +kernel
theorem dL_law_2001 : decode cL_law 2001 = .ok (.aload_n 1, 1) := by decide +kernel
theorem dL_law_2002 : decode cL_law 2002 = .ok (.aload_n 0, 1) := by decide +kernel
theorem dL_law_2003 : decode cL_law 2003 = .ok (.iload 4, 2) := by decide +kernel
theorem dL_law_2005 : decode cL_law 2005 = .ok (.iconst 1, 1) := by decide +kernel
theorem dL_law_2006 : decode cL_law 2006 = .ok (.iadd, 1) := by decide +kernel
theorem dL_law_2007 : decode cL_law 2007 = .ok (.iaload, 1) := by decide +kernel
theorem dL_law_2008 : decode cL_law 2008 = .ok (.invokevirtual 223, 3) := by decide +kernel
theorem dL_law_2011 : decode cL_law 2011 = .ok (.aload_n 2, 1) := by decide +kernel
theorem dL_law_2012 : decode cL_law 2012 = .ok (.aload_n 0, 1) := by decide +kernel
theorem dL_law_2013 : decode cL_law 2013 = .ok (.iload 4, 2) := by decide +kernel
theorem dL_law_2015 : decode cL_law 2015 = .ok (.iconst 1, 1) := by decide +kernel
theorem dL_law_2016 : decode cL_law 2016 = .ok (.iadd, 1) := by decide +kernel
theorem dL_law_2017 : decode cL_law 2017 = .ok (.iaload, 1) := by decide +kernel
theorem dL_law_2018 : decode cL_law 2018 = .ok (.invokevirtual 226, 3) := by decide +kernel
theorem dL_law_2021 : decode cL_law 2021 = .ok (.if_icmp .eq 30, 3) := by decide +kernel
theorem dL_law_2024 : decode cL_law 2024 = .ok (.iconst 0, 1) := by decide +kernel
theorem dL_law_2025 : decode cL_law 2025 = .ok (.ireturn, 1) := by decide +kernel
theorem dL_law_2026 : decode cL_law 2026 = .ok (.aload_n 1, 1) := by decide +kernel
theorem dL_law_2027 : decode cL_law 2027 = .ok (.aload_n 0, 1) := by decide +kernel
theorem dL_law_2028 : decode cL_law 2028 = .ok (.iload 4, 2) := by decide +kernel
theorem dL_law_2030 : decode cL_law 2030 = .ok (.iconst 1, 1) := by decide +kernel
theorem dL_law_2031 : decode cL_law 2031 = .ok (.iadd, 1) := by decide +kernel
theorem dL_law_2032 : decode cL_law 2032 = .ok (.iaload, 1) := by decide +kernel
theorem dL_law_2033 : decode cL_law 2033 = .ok (.invokevirtual 227, 3) := by decide +kernel
theorem dL_law_2036 : decode cL_law 2036 = .ok (.aload_n 2, 1) := by decide +kernel
theorem dL_law_2037 : decode cL_law 2037 = .ok (.aload_n 0, 1) := by decide +kernel
theorem dL_law_2038 : decode cL_law 2038 = .ok (.iload 4, 2) := by decide +kernel
theorem dL_law_2040 : decode cL_law 2040 = .ok (.iconst 1, 1) := by decide +kernel
theorem dL_law_2041 : decode cL_law 2041 = .ok (.iadd, 1) := by decide +kernel
theorem dL_law_2042 : decode cL_law 2042 = .ok (.iaload, 1) := by decide +kernel
theorem dL_law_2043 : decode cL_law 2043 = .ok (.invokevirtual 230, 3) := by decide +kernel
theorem dL_law_2046 : decode cL_law 2046 = .ok (.if_icmp .eq 5, 3) := by decide +kernel
theorem dL_law_2049 : decode cL_law 2049 = .ok (.iconst 0, 1) := by decide +kernel
theorem dL_law_2050 : decode cL_law 2050 = .ok (.ireturn, 1) := by decide +kernel
theorem dL_law_2051 : decode cL_law 2051 = .ok (.iinc 4 6, 3) := by decide +kernel
theorem dL_law_2054 : decode cL_law 2054 = .ok (.goto (-2031), 3) := by decide +kernel
theorem dL_law_2057 : decode cL_law 2057 = .ok (.iconst 1, 1) := by decide +kernel
theorem dL_law_2058 : decode cL_law 2058 = .ok (.ireturn, 1) := by decide +kernel
def J_L_law_2051 (b0 fu : Nat) (L : Nat) (xs : Nat → Int32) (rc23 : Nat → Nat → Nat → Int32 → tM → Option ((Int32) × tM)) (x1 : Nat) (x2 : Nat) (x3 : Nat) (x4 : Int32) (σ : tM) : Option ((Int32) × tM) := ltb ((x4) + Int32.ofInt 6) (fun y34 => rc23 (x1) (x2) (x3) (y34) (σ))
def J_L_law_384 (b0 fu : Nat) (L : Nat) (xs : Nat → Int32) (rc23 : Nat → Nat → Nat → Int32 → tM → Option ((Int32) × tM)) (x1 : Nat) (x2 : Nat) (x3 : Nat) (x4 : Int32) (σ : tM) : Option ((Int32) × tM) := J_L_law_2051 b0 fu L xs rc23  (x1) (x2) (x3) (x4) (σ)
def J_L_law_428 (b0 fu : Nat) (L : Nat) (xs : Nat → Int32) (rc23 : Nat → Nat → Nat → Int32 → tM → Option ((Int32) × tM)) (x1 : Nat) (x2 : Nat) (x3 : Nat) (x4 : Int32) (σ : tM) : Option ((Int32) × tM) := J_L_law_2051 b0 fu L xs rc23  (x1) (x2) (x3) (x4) (σ)
def J_L_law_472 (b0 fu : Nat) (L : Nat) (xs : Nat → Int32) (rc23 : Nat → Nat → Nat → Int32 → tM → Option ((Int32) × tM)) (x1 : Nat) (x2 : Nat) (x3 : Nat) (x4 : Int32) (σ : tM) : Option ((Int32) × tM) := J_L_law_2051 b0 fu L xs rc23  (x1) (x2) (x3) (x4) (σ)
def J_L_law_516 (b0 fu : Nat) (L : Nat) (xs : Nat → Int32) (rc23 : Nat → Nat → Nat → Int32 → tM → Option ((Int32) × tM)) (x1 : Nat) (x2 : Nat) (x3 : Nat) (x4 : Int32) (σ : tM) : Option ((Int32) × tM) := J_L_law_2051 b0 fu L xs rc23  (x1) (x2) (x3) (x4) (σ)
def J_L_law_560 (b0 fu : Nat) (L : Nat) (xs : Nat → Int32) (rc23 : Nat → Nat → Nat → Int32 → tM → Option ((Int32) × tM)) (x1 : Nat) (x2 : Nat) (x3 : Nat) (x4 : Int32) (σ : tM) : Option ((Int32) × tM) := J_L_law_2051 b0 fu L xs rc23  (x1) (x2) (x3) (x4) (σ)
def J_L_law_604 (b0 fu : Nat) (L : Nat) (xs : Nat → Int32) (rc23 : Nat → Nat → Nat → Int32 → tM → Option ((Int32) × tM)) (x1 : Nat) (x2 : Nat) (x3 : Nat) (x4 : Int32) (σ : tM) : Option ((Int32) × tM) := J_L_law_2051 b0 fu L xs rc23  (x1) (x2) (x3) (x4) (σ)
def J_L_law_648 (b0 fu : Nat) (L : Nat) (xs : Nat → Int32) (rc23 : Nat → Nat → Nat → Int32 → tM → Option ((Int32) × tM)) (x1 : Nat) (x2 : Nat) (x3 : Nat) (x4 : Int32) (σ : tM) : Option ((Int32) × tM) := J_L_law_2051 b0 fu L xs rc23  (x1) (x2) (x3) (x4) (σ)
def J_L_law_692 (b0 fu : Nat) (L : Nat) (xs : Nat → Int32) (rc23 : Nat → Nat → Nat → Int32 → tM → Option ((Int32) × tM)) (x1 : Nat) (x2 : Nat) (x3 : Nat) (x4 : Int32) (σ : tM) : Option ((Int32) × tM) := J_L_law_2051 b0 fu L xs rc23  (x1) (x2) (x3) (x4) (σ)
def J_L_law_748 (b0 fu : Nat) (L : Nat) (xs : Nat → Int32) (rc23 : Nat → Nat → Nat → Int32 → tM → Option ((Int32) × tM)) (x1 : Nat) (x2 : Nat) (x3 : Nat) (x4 : Int32) (σ : tM) : Option ((Int32) × tM) := J_L_law_2051 b0 fu L xs rc23  (x1) (x2) (x3) (x4) (σ)
def J_L_law_828 (b0 fu : Nat) (L : Nat) (xs : Nat → Int32) (rc23 : Nat → Nat → Nat → Int32 → tM → Option ((Int32) × tM)) (x1 : Nat) (x2 : Nat) (x3 : Nat) (x4 : Int32) (σ : tM) : Option ((Int32) × tM) := J_L_law_2051 b0 fu L xs rc23  (x1) (x2) (x3) (x4) (σ)
def J_L_law_920 (b0 fu : Nat) (L : Nat) (xs : Nat → Int32) (rc23 : Nat → Nat → Nat → Int32 → tM → Option ((Int32) × tM)) (x1 : Nat) (x2 : Nat) (x3 : Nat) (x4 : Int32) (σ : tM) : Option ((Int32) × tM) := J_L_law_2051 b0 fu L xs rc23  (x1) (x2) (x3) (x4) (σ)
def J_L_law_988 (b0 fu : Nat) (L : Nat) (xs : Nat → Int32) (rc23 : Nat → Nat → Nat → Int32 → tM → Option ((Int32) × tM)) (x1 : Nat) (x2 : Nat) (x3 : Nat) (x4 : Int32) (σ : tM) : Option ((Int32) × tM) := J_L_law_2051 b0 fu L xs rc23  (x1) (x2) (x3) (x4) (σ)
def J_L_law_1056 (b0 fu : Nat) (L : Nat) (xs : Nat → Int32) (rc23 : Nat → Nat → Nat → Int32 → tM → Option ((Int32) × tM)) (x1 : Nat) (x2 : Nat) (x3 : Nat) (x4 : Int32) (σ : tM) : Option ((Int32) × tM) := J_L_law_2051 b0 fu L xs rc23  (x1) (x2) (x3) (x4) (σ)
def J_L_law_1135 (b0 fu : Nat) (L : Nat) (xs : Nat → Int32) (rc23 : Nat → Nat → Nat → Int32 → tM → Option ((Int32) × tM)) (x1 : Nat) (x2 : Nat) (x3 : Nat) (x4 : Int32) (σ : tM) : Option ((Int32) × tM) := J_L_law_2051 b0 fu L xs rc23  (x1) (x2) (x3) (x4) (σ)
def J_L_law_1219 (b0 fu : Nat) (L : Nat) (xs : Nat → Int32) (rc23 : Nat → Nat → Nat → Int32 → tM → Option ((Int32) × tM)) (x1 : Nat) (x2 : Nat) (x3 : Nat) (x4 : Int32) (σ : tM) : Option ((Int32) × tM) := J_L_law_2051 b0 fu L xs rc23  (x1) (x2) (x3) (x4) (σ)
def J_L_law_1186 (b0 fu : Nat) (L : Nat) (xs : Nat → Int32) (rc23 : Nat → Nat → Nat → Int32 → tM → Option ((Int32) × tM)) (x1 : Nat) (x2 : Nat) (x3 : Nat) (x4 : Int32) (x5 : Int32) (s0 : Nat) (s1 : Int32) (s2 : Int32) (σ : tM) : Option ((Int32) × tM) := ckO b0 (σ) (s0) 11 (cll (m_X12_info b0 fu (s0) (s1) (s2) (σ)) (fun v392 ρ393 => ckO b0 (ρ393) (x2) 11 (cll (m_X12_thrown b0 fu (x2) (ρ393)) (fun v397 ρ398 => if (v397) = (x5) then if (x5) = (0) then ckR b0 (ρ398) (x3) 3 (fun n404 => ckI (0) (n404) (if (lg_cmp (tL (ρ398) (x3) (((0 : Int32)).toNatClampNeg)) ((v392).toInt64)) = (0) then J_L_law_1219 b0 fu L xs rc23  (x1) (x2) (x3) (x4) (ρ398) else some (0, ρ398))) else J_L_law_1219 b0 fu L xs rc23  (x1) (x2) (x3) (x4) (ρ398) else some (0, ρ398)))))
def J_L_law_1159 (b0 fu : Nat) (L : Nat) (xs : Nat → Int32) (rc23 : Nat → Nat → Nat → Int32 → tM → Option ((Int32) × tM)) (x1 : Nat) (x2 : Nat) (x3 : Nat) (x4 : Int32) (s0 : Nat) (s1 : Int32) (s2 : Int32) (σ : tM) : Option ((Int32) × tM) := cll (m_L_info b0 fu (s0) (s1) (s2) (x3) (σ)) (fun v384 ρ385 => ckI ((x4) + (1)) L (ckI ((x4) + (2)) L (if (xs (((x4) + (2)).toNatClampNeg)) = (0) then J_L_law_1186 b0 fu L xs rc23  (x1) (x2) (x3) (x4) (v384) (x2) (xs (((x4) + (1)).toNatClampNeg)) (0) (ρ385) else J_L_law_1186 b0 fu L xs rc23  (x1) (x2) (x3) (x4) (v384) (x2) (xs (((x4) + (1)).toNatClampNeg)) (1) (ρ385))))
def J_L_law_1287 (b0 fu : Nat) (L : Nat) (xs : Nat → Int32) (rc23 : Nat → Nat → Nat → Int32 → tM → Option ((Int32) × tM)) (x1 : Nat) (x2 : Nat) (x3 : Nat) (x4 : Int32) (σ : tM) : Option ((Int32) × tM) := J_L_law_2051 b0 fu L xs rc23  (x1) (x2) (x3) (x4) (σ)
def J_L_law_1355 (b0 fu : Nat) (L : Nat) (xs : Nat → Int32) (rc23 : Nat → Nat → Nat → Int32 → tM → Option ((Int32) × tM)) (x1 : Nat) (x2 : Nat) (x3 : Nat) (x4 : Int32) (σ : tM) : Option ((Int32) × tM) := J_L_law_2051 b0 fu L xs rc23  (x1) (x2) (x3) (x4) (σ)
def J_L_law_1411 (b0 fu : Nat) (L : Nat) (xs : Nat → Int32) (rc23 : Nat → Nat → Nat → Int32 → tM → Option ((Int32) × tM)) (x1 : Nat) (x2 : Nat) (x3 : Nat) (x4 : Int32) (σ : tM) : Option ((Int32) × tM) := J_L_law_2051 b0 fu L xs rc23  (x1) (x2) (x3) (x4) (σ)
def J_L_law_1479 (b0 fu : Nat) (L : Nat) (xs : Nat → Int32) (rc23 : Nat → Nat → Nat → Int32 → tM → Option ((Int32) × tM)) (x1 : Nat) (x2 : Nat) (x3 : Nat) (x4 : Int32) (σ : tM) : Option ((Int32) × tM) := J_L_law_2051 b0 fu L xs rc23  (x1) (x2) (x3) (x4) (σ)
def J_L_law_1535 (b0 fu : Nat) (L : Nat) (xs : Nat → Int32) (rc23 : Nat → Nat → Nat → Int32 → tM → Option ((Int32) × tM)) (x1 : Nat) (x2 : Nat) (x3 : Nat) (x4 : Int32) (σ : tM) : Option ((Int32) × tM) := J_L_law_2051 b0 fu L xs rc23  (x1) (x2) (x3) (x4) (σ)
def J_L_law_1591 (b0 fu : Nat) (L : Nat) (xs : Nat → Int32) (rc23 : Nat → Nat → Nat → Int32 → tM → Option ((Int32) × tM)) (x1 : Nat) (x2 : Nat) (x3 : Nat) (x4 : Int32) (σ : tM) : Option ((Int32) × tM) := J_L_law_2051 b0 fu L xs rc23  (x1) (x2) (x3) (x4) (σ)
def J_L_law_1635 (b0 fu : Nat) (L : Nat) (xs : Nat → Int32) (rc23 : Nat → Nat → Nat → Int32 → tM → Option ((Int32) × tM)) (x1 : Nat) (x2 : Nat) (x3 : Nat) (x4 : Int32) (σ : tM) : Option ((Int32) × tM) := J_L_law_2051 b0 fu L xs rc23  (x1) (x2) (x3) (x4) (σ)
def J_L_law_1679 (b0 fu : Nat) (L : Nat) (xs : Nat → Int32) (rc23 : Nat → Nat → Nat → Int32 → tM → Option ((Int32) × tM)) (x1 : Nat) (x2 : Nat) (x3 : Nat) (x4 : Int32) (σ : tM) : Option ((Int32) × tM) := J_L_law_2051 b0 fu L xs rc23  (x1) (x2) (x3) (x4) (σ)
def J_L_law_1735 (b0 fu : Nat) (L : Nat) (xs : Nat → Int32) (rc23 : Nat → Nat → Nat → Int32 → tM → Option ((Int32) × tM)) (x1 : Nat) (x2 : Nat) (x3 : Nat) (x4 : Int32) (σ : tM) : Option ((Int32) × tM) := J_L_law_2051 b0 fu L xs rc23  (x1) (x2) (x3) (x4) (σ)
def J_L_law_1791 (b0 fu : Nat) (L : Nat) (xs : Nat → Int32) (rc23 : Nat → Nat → Nat → Int32 → tM → Option ((Int32) × tM)) (x1 : Nat) (x2 : Nat) (x3 : Nat) (x4 : Int32) (σ : tM) : Option ((Int32) × tM) := J_L_law_2051 b0 fu L xs rc23  (x1) (x2) (x3) (x4) (σ)
def J_L_law_1860 (b0 fu : Nat) (L : Nat) (xs : Nat → Int32) (rc23 : Nat → Nat → Nat → Int32 → tM → Option ((Int32) × tM)) (x1 : Nat) (x2 : Nat) (x3 : Nat) (x4 : Int32) (σ : tM) : Option ((Int32) × tM) := J_L_law_2051 b0 fu L xs rc23  (x1) (x2) (x3) (x4) (σ)
def J_L_law_1998 (b0 fu : Nat) (L : Nat) (xs : Nat → Int32) (rc23 : Nat → Nat → Nat → Int32 → tM → Option ((Int32) × tM)) (x1 : Nat) (x2 : Nat) (x3 : Nat) (x4 : Int32) (σ : tM) : Option ((Int32) × tM) := J_L_law_2051 b0 fu L xs rc23  (x1) (x2) (x3) (x4) (σ)
def L_L_law_23 (b0 fu : Nat) (L : Nat) (xs : Nat → Int32)  : Nat → Nat → Nat → Nat → Int32 → tM → Option ((Int32) × tM)
  | 0, _, _, _, _, _ => none
  | n + 1, x1, x2, x3, x4, σ => ltb (L_L_law_23 b0 fu L xs  n) (fun rc23 => if ((Int32.ofNat L) - (6)) < (x4) then some (1, σ) else ckI (x4) L (ltb (((xs ((x4).toNatClampNeg)) &&& (63) : Int32)) (fun y18 => if (y18) = (0) then ckI ((x4) + (1)) L (ckI ((x4) + (2)) L (ckO b0 (σ) (x1) 10 (cll (m_X10_format b0 fu (x1) (xs (((x4) + (1)).toNatClampNeg)) (xs (((x4) + (2)).toNatClampNeg)) (σ)) (fun v23 ρ24 => ckI ((x4) + (1)) L (ckI ((x4) + (2)) L (ckO b0 (ρ24) (x2) 11 (cll (m_X12_format b0 fu (x2) (xs (((x4) + (1)).toNatClampNeg)) (xs (((x4) + (2)).toNatClampNeg)) (ρ24)) (fun v30 ρ31 => if (v23) = (v30) then J_L_law_2051 b0 fu L xs rc23  (x1) (x2) (x3) (x4) (ρ31) else some (0, ρ31))))))))) else if (y18) = (1) then ckI ((x4) + (1)) L (ckI ((x4) + (2)) L (ckI ((x4) + (3)) L (ckI ((x4) + (4)) L (ckI ((x4) + (5)) L (ckO b0 (σ) (x1) 10 (cll (m_X10_feed b0 fu (x1) (xs (((x4) + (1)).toNatClampNeg)) (xs (((x4) + (2)).toNatClampNeg)) (xs (((x4) + (3)).toNatClampNeg)) (xs (((x4) + (4)).toNatClampNeg)) (xs (((x4) + (5)).toNatClampNeg)) (σ)) (fun v42 ρ43 => ckI ((x4) + (1)) L (ckI ((x4) + (2)) L (ckI ((x4) + (3)) L (ckI ((x4) + (4)) L (ckI ((x4) + (5)) L (ckO b0 (ρ43) (x2) 11 (cll (m_X12_feed b0 fu (x2) (xs (((x4) + (1)).toNatClampNeg)) (xs (((x4) + (2)).toNatClampNeg)) (xs (((x4) + (3)).toNatClampNeg)) (xs (((x4) + (4)).toNatClampNeg)) (xs (((x4) + (5)).toNatClampNeg)) (ρ43)) (fun v52 ρ53 => if (v42) = (v52) then J_L_law_2051 b0 fu L xs rc23  (x1) (x2) (x3) (x4) (ρ53) else some (0, ρ53))))))))))))))) else if (y18) = (2) then ckI ((x4) + (1)) L (ckI ((x4) + (2)) L (ckO b0 (σ) (x1) 10 (cll (m_X10_path b0 fu (x1) (xs (((x4) + (1)).toNatClampNeg)) (xs (((x4) + (2)).toNatClampNeg)) (σ)) (fun v60 ρ61 => ckI ((x4) + (1)) L (ckI ((x4) + (2)) L (ckO b0 (ρ61) (x2) 11 (cll (m_X12_path b0 fu (x2) (xs (((x4) + (1)).toNatClampNeg)) (xs (((x4) + (2)).toNatClampNeg)) (ρ61)) (fun v67 ρ68 => if (v60) = (v67) then J_L_law_2051 b0 fu L xs rc23  (x1) (x2) (x3) (x4) (ρ68) else some (0, ρ68))))))))) else if (y18) = (3) then cll (m_L_create b0 fu (x1) (x3) (σ)) (fun v71 ρ72 => ckO b0 (ρ72) (x2) 11 (cll (m_X12_create b0 fu (x2) (ρ72)) (fun v76 ρ77 => ckO b0 (ρ77) (x2) 11 (cll (m_X12_thrown b0 fu (x2) (ρ77)) (fun v81 ρ82 => if (v81) = (v71) then if (v71) = (0) then ckR b0 (ρ82) (x3) 3 (fun n88 => ckI (0) (n88) (if (lg_cmp (tL (ρ82) (x3) (((0 : Int32)).toNatClampNeg)) ((v76).toInt64)) = (0) then J_L_law_384 b0 fu L xs rc23  (x1) (x2) (x3) (x4) (ρ82) else some (0, ρ82))) else J_L_law_384 b0 fu L xs rc23  (x1) (x2) (x3) (x4) (ρ82) else some (0, ρ82)))))) else if (y18) = (4) then cll (m_L_mkdir b0 fu (x1) (x3) (σ)) (fun v91 ρ92 => ckO b0 (ρ92) (x2) 11 (cll (m_X12_mkdir b0 fu (x2) (ρ92)) (fun v96 ρ97 => ckO b0 (ρ97) (x2) 11 (cll (m_X12_thrown b0 fu (x2) (ρ97)) (fun v101 ρ102 => if (v101) = (v91) then if (v91) = (0) then ckR b0 (ρ102) (x3) 3 (fun n108 => ckI (0) (n108) (if (lg_cmp (tL (ρ102) (x3) (((0 : Int32)).toNatClampNeg)) ((v96).toInt64)) = (0) then J_L_law_428 b0 fu L xs rc23  (x1) (x2) (x3) (x4) (ρ102) else some (0, ρ102))) else J_L_law_428 b0 fu L xs rc23  (x1) (x2) (x3) (x4) (ρ102) else some (0, ρ102)))))) else if (y18) = (5) then cll (m_L_symlink b0 fu (x1) (x3) (σ)) (fun v111 ρ112 => ckO b0 (ρ112) (x2) 11 (cll (m_X12_symlink b0 fu (x2) (ρ112)) (fun v116 ρ117 => ckO b0 (ρ117) (x2) 11 (cll (m_X12_thrown b0 fu (x2) (ρ117)) (fun v121 ρ122 => if (v121) = (v111) then if (v111) = (0) then ckR b0 (ρ122) (x3) 3 (fun n128 => ckI (0) (n128) (if (lg_cmp (tL (ρ122) (x3) (((0 : Int32)).toNatClampNeg)) ((v116).toInt64)) = (0) then J_L_law_472 b0 fu L xs rc23  (x1) (x2) (x3) (x4) (ρ122) else some (0, ρ122))) else J_L_law_472 b0 fu L xs rc23  (x1) (x2) (x3) (x4) (ρ122) else some (0, ρ122)))))) else if (y18) = (6) then cll (m_L_link b0 fu (x1) (x3) (σ)) (fun v131 ρ132 => ckO b0 (ρ132) (x2) 11 (cll (m_X12_link b0 fu (x2) (ρ132)) (fun v136 ρ137 => ckO b0 (ρ137) (x2) 11 (cll (m_X12_thrown b0 fu (x2) (ρ137)) (fun v141 ρ142 => if (v141) = (v131) then if (v131) = (0) then ckR b0 (ρ142) (x3) 3 (fun n148 => ckI (0) (n148) (if (lg_cmp (tL (ρ142) (x3) (((0 : Int32)).toNatClampNeg)) ((v136).toInt64)) = (0) then J_L_law_516 b0 fu L xs rc23  (x1) (x2) (x3) (x4) (ρ142) else some (0, ρ142))) else J_L_law_516 b0 fu L xs rc23  (x1) (x2) (x3) (x4) (ρ142) else some (0, ρ142)))))) else if (y18) = (7) then cll (m_L_unlink b0 fu (x1) (x3) (σ)) (fun v151 ρ152 => ckO b0 (ρ152) (x2) 11 (cll (m_X12_unlink b0 fu (x2) (ρ152)) (fun v156 ρ157 => ckO b0 (ρ157) (x2) 11 (cll (m_X12_thrown b0 fu (x2) (ρ157)) (fun v161 ρ162 => if (v161) = (v151) then if (v151) = (0) then ckR b0 (ρ162) (x3) 3 (fun n168 => ckI (0) (n168) (if (lg_cmp (tL (ρ162) (x3) (((0 : Int32)).toNatClampNeg)) ((v156).toInt64)) = (0) then J_L_law_560 b0 fu L xs rc23  (x1) (x2) (x3) (x4) (ρ162) else some (0, ρ162))) else J_L_law_560 b0 fu L xs rc23  (x1) (x2) (x3) (x4) (ρ162) else some (0, ρ162)))))) else if (y18) = (8) then cll (m_L_rmdir b0 fu (x1) (x3) (σ)) (fun v171 ρ172 => ckO b0 (ρ172) (x2) 11 (cll (m_X12_rmdir b0 fu (x2) (ρ172)) (fun v176 ρ177 => ckO b0 (ρ177) (x2) 11 (cll (m_X12_thrown b0 fu (x2) (ρ177)) (fun v181 ρ182 => if (v181) = (v171) then if (v171) = (0) then ckR b0 (ρ182) (x3) 3 (fun n188 => ckI (0) (n188) (if (lg_cmp (tL (ρ182) (x3) (((0 : Int32)).toNatClampNeg)) ((v176).toInt64)) = (0) then J_L_law_604 b0 fu L xs rc23  (x1) (x2) (x3) (x4) (ρ182) else some (0, ρ182))) else J_L_law_604 b0 fu L xs rc23  (x1) (x2) (x3) (x4) (ρ182) else some (0, ρ182)))))) else if (y18) = (9) then cll (m_L_rename b0 fu (x1) (x3) (σ)) (fun v191 ρ192 => ckO b0 (ρ192) (x2) 11 (cll (m_X12_rename b0 fu (x2) (ρ192)) (fun v196 ρ197 => ckO b0 (ρ197) (x2) 11 (cll (m_X12_thrown b0 fu (x2) (ρ197)) (fun v201 ρ202 => if (v201) = (v191) then if (v191) = (0) then ckR b0 (ρ202) (x3) 3 (fun n208 => ckI (0) (n208) (if (lg_cmp (tL (ρ202) (x3) (((0 : Int32)).toNatClampNeg)) ((v196).toInt64)) = (0) then J_L_law_648 b0 fu L xs rc23  (x1) (x2) (x3) (x4) (ρ202) else some (0, ρ202))) else J_L_law_648 b0 fu L xs rc23  (x1) (x2) (x3) (x4) (ρ202) else some (0, ρ202)))))) else if (y18) = (10) then cll (m_L_open b0 fu (x1) (x3) (σ)) (fun v211 ρ212 => ckO b0 (ρ212) (x2) 11 (cll (m_X12_open b0 fu (x2) (ρ212)) (fun v216 ρ217 => ckO b0 (ρ217) (x2) 11 (cll (m_X12_thrown b0 fu (x2) (ρ217)) (fun v221 ρ222 => if (v221) = (v211) then if (v211) = (0) then ckR b0 (ρ222) (x3) 3 (fun n228 => ckI (0) (n228) (if (lg_cmp (tL (ρ222) (x3) (((0 : Int32)).toNatClampNeg)) ((v216).toInt64)) = (0) then J_L_law_692 b0 fu L xs rc23  (x1) (x2) (x3) (x4) (ρ222) else some (0, ρ222))) else J_L_law_692 b0 fu L xs rc23  (x1) (x2) (x3) (x4) (ρ222) else some (0, ρ222)))))) else if (y18) = (11) then ckI ((x4) + (1)) L (cll (m_L_close b0 fu (x1) (xs (((x4) + (1)).toNatClampNeg)) (x3) (σ)) (fun v232 ρ233 => ckI ((x4) + (1)) L (ckO b0 (ρ233) (x2) 11 (cll (m_X12_close b0 fu (x2) (xs (((x4) + (1)).toNatClampNeg)) (ρ233)) (fun v238 ρ239 => ckO b0 (ρ239) (x2) 11 (cll (m_X12_thrown b0 fu (x2) (ρ239)) (fun v243 ρ244 => if (v243) = (v232) then if (v232) = (0) then ckR b0 (ρ244) (x3) 3 (fun n250 => ckI (0) (n250) (if (lg_cmp (tL (ρ244) (x3) (((0 : Int32)).toNatClampNeg)) ((v238).toInt64)) = (0) then J_L_law_748 b0 fu L xs rc23  (x1) (x2) (x3) (x4) (ρ244) else some (0, ρ244))) else J_L_law_748 b0 fu L xs rc23  (x1) (x2) (x3) (x4) (ρ244) else some (0, ρ244)))))))) else if (y18) = (12) then ckI ((x4) + (1)) L (ckI ((x4) + (2)) L (ckI ((x4) + (3)) L (cll (m_L_write b0 fu (x1) (xs (((x4) + (1)).toNatClampNeg)) (xs (((x4) + (2)).toNatClampNeg)) (xs (((x4) + (3)).toNatClampNeg)) (x3) (σ)) (fun v256 ρ257 => ckI ((x4) + (1)) L (ckI ((x4) + (2)) L (ckI ((x4) + (3)) L (ckO b0 (ρ257) (x2) 11 (cll (m_X12_write b0 fu (x2) (xs (((x4) + (1)).toNatClampNeg)) (xs (((x4) + (2)).toNatClampNeg)) (xs (((x4) + (3)).toNatClampNeg)) (ρ257)) (fun v264 ρ265 => ckO b0 (ρ265) (x2) 11 (cll (m_X12_thrown b0 fu (x2) (ρ265)) (fun v269 ρ270 => if (v269) = (v256) then if (v256) = (0) then ckR b0 (ρ270) (x3) 3 (fun n276 => ckI (0) (n276) (if (lg_cmp (tL (ρ270) (x3) (((0 : Int32)).toNatClampNeg)) ((v264).toInt64)) = (0) then J_L_law_828 b0 fu L xs rc23  (x1) (x2) (x3) (x4) (ρ270) else some (0, ρ270))) else J_L_law_828 b0 fu L xs rc23  (x1) (x2) (x3) (x4) (ρ270) else some (0, ρ270)))))))))))) else if (y18) = (13) then ckI ((x4) + (1)) L (ckI ((x4) + (2)) L (ckI ((x4) + (3)) L (ckI ((x4) + (4)) L (cll (m_L_fill b0 fu (x1) (xs (((x4) + (1)).toNatClampNeg)) (xs (((x4) + (2)).toNatClampNeg)) (xs (((x4) + (3)).toNatClampNeg)) (xs (((x4) + (4)).toNatClampNeg)) (x3) (σ)) (fun v283 ρ284 => ckI ((x4) + (1)) L (ckI ((x4) + (2)) L (ckI ((x4) + (3)) L (ckI ((x4) + (4)) L (ckO b0 (ρ284) (x2) 11 (cll (m_X12_fill b0 fu (x2) (xs (((x4) + (1)).toNatClampNeg)) (xs (((x4) + (2)).toNatClampNeg)) (xs (((x4) + (3)).toNatClampNeg)) (xs (((x4) + (4)).toNatClampNeg)) (ρ284)) (fun v292 ρ293 => ckO b0 (ρ293) (x2) 11 (cll (m_X12_thrown b0 fu (x2) (ρ293)) (fun v297 ρ298 => if (v297) = (v283) then if (v283) = (0) then ckR b0 (ρ298) (x3) 3 (fun n304 => ckI (0) (n304) (if (lg_cmp (tL (ρ298) (x3) (((0 : Int32)).toNatClampNeg)) ((v292).toInt64)) = (0) then J_L_law_920 b0 fu L xs rc23  (x1) (x2) (x3) (x4) (ρ298) else some (0, ρ298))) else J_L_law_920 b0 fu L xs rc23  (x1) (x2) (x3) (x4) (ρ298) else some (0, ρ298)))))))))))))) else if (y18) = (14) then ckI ((x4) + (1)) L (ckI ((x4) + (2)) L (cll (m_L_truncate b0 fu (x1) (xs (((x4) + (1)).toNatClampNeg)) (xs (((x4) + (2)).toNatClampNeg)) (x3) (σ)) (fun v309 ρ310 => ckI ((x4) + (1)) L (ckI ((x4) + (2)) L (ckO b0 (ρ310) (x2) 11 (cll (m_X12_truncate b0 fu (x2) (xs (((x4) + (1)).toNatClampNeg)) (xs (((x4) + (2)).toNatClampNeg)) (ρ310)) (fun v316 ρ317 => ckO b0 (ρ317) (x2) 11 (cll (m_X12_thrown b0 fu (x2) (ρ317)) (fun v321 ρ322 => if (v321) = (v309) then if (v309) = (0) then ckR b0 (ρ322) (x3) 3 (fun n328 => ckI (0) (n328) (if (lg_cmp (tL (ρ322) (x3) (((0 : Int32)).toNatClampNeg)) ((v316).toInt64)) = (0) then J_L_law_988 b0 fu L xs rc23  (x1) (x2) (x3) (x4) (ρ322) else some (0, ρ322))) else J_L_law_988 b0 fu L xs rc23  (x1) (x2) (x3) (x4) (ρ322) else some (0, ρ322)))))))))) else if (y18) = (15) then ckI ((x4) + (1)) L (ckI ((x4) + (2)) L (cll (m_L_byteAt b0 fu (x1) (xs (((x4) + (1)).toNatClampNeg)) (xs (((x4) + (2)).toNatClampNeg)) (x3) (σ)) (fun v333 ρ334 => ckI ((x4) + (1)) L (ckI ((x4) + (2)) L (ckO b0 (ρ334) (x2) 11 (cll (m_X12_byteAt b0 fu (x2) (xs (((x4) + (1)).toNatClampNeg)) (xs (((x4) + (2)).toNatClampNeg)) (ρ334)) (fun v340 ρ341 => ckO b0 (ρ341) (x2) 11 (cll (m_X12_thrown b0 fu (x2) (ρ341)) (fun v345 ρ346 => if (v345) = (v333) then if (v333) = (0) then ckR b0 (ρ346) (x3) 3 (fun n352 => ckI (0) (n352) (if (lg_cmp (tL (ρ346) (x3) (((0 : Int32)).toNatClampNeg)) ((v340).toInt64)) = (0) then J_L_law_1056 b0 fu L xs rc23  (x1) (x2) (x3) (x4) (ρ346) else some (0, ρ346))) else J_L_law_1056 b0 fu L xs rc23  (x1) (x2) (x3) (x4) (ρ346) else some (0, ρ346)))))))))) else if (y18) = (16) then ckI ((x4) + (1)) L (ckI ((x4) + (2)) L (ckI ((x4) + (3)) L (cll (m_L_sum b0 fu (x1) (xs (((x4) + (1)).toNatClampNeg)) (xs (((x4) + (2)).toNatClampNeg)) (xs (((x4) + (3)).toNatClampNeg)) (x3) (σ)) (fun v358 ρ359 => ckI ((x4) + (1)) L (ckI ((x4) + (2)) L (ckI ((x4) + (3)) L (ckO b0 (ρ359) (x2) 11 (cll (m_X12_sum b0 fu (x2) (xs (((x4) + (1)).toNatClampNeg)) (xs (((x4) + (2)).toNatClampNeg)) (xs (((x4) + (3)).toNatClampNeg)) (ρ359)) (fun v366 ρ367 => ckO b0 (ρ367) (x2) 11 (cll (m_X12_thrown b0 fu (x2) (ρ367)) (fun v371 ρ372 => if (v371) = (v358) then if (v358) = (0) then ckR b0 (ρ372) (x3) 3 (fun n378 => ckI (0) (n378) (if (lg_cmp (tL (ρ372) (x3) (((0 : Int32)).toNatClampNeg)) (v366)) = (0) then J_L_law_1135 b0 fu L xs rc23  (x1) (x2) (x3) (x4) (ρ372) else some (0, ρ372))) else J_L_law_1135 b0 fu L xs rc23  (x1) (x2) (x3) (x4) (ρ372) else some (0, ρ372)))))))))))) else if (y18) = (17) then ckI ((x4) + (1)) L (ckI ((x4) + (2)) L (if (xs (((x4) + (2)).toNatClampNeg)) = (0) then J_L_law_1159 b0 fu L xs rc23  (x1) (x2) (x3) (x4) (x1) (xs (((x4) + (1)).toNatClampNeg)) (0) (σ) else J_L_law_1159 b0 fu L xs rc23  (x1) (x2) (x3) (x4) (x1) (xs (((x4) + (1)).toNatClampNeg)) (1) (σ))) else if (y18) = (18) then ckI ((x4) + (1)) L (ckI ((x4) + (2)) L (cll (m_L_infoOf b0 fu (x1) (xs (((x4) + (1)).toNatClampNeg)) (xs (((x4) + (2)).toNatClampNeg)) (x3) (σ)) (fun v409 ρ410 => ckI ((x4) + (1)) L (ckI ((x4) + (2)) L (ckO b0 (ρ410) (x2) 11 (cll (m_X12_infoOf b0 fu (x2) (xs (((x4) + (1)).toNatClampNeg)) (xs (((x4) + (2)).toNatClampNeg)) (ρ410)) (fun v416 ρ417 => ckO b0 (ρ417) (x2) 11 (cll (m_X12_thrown b0 fu (x2) (ρ417)) (fun v421 ρ422 => if (v421) = (v409) then if (v409) = (0) then ckR b0 (ρ422) (x3) 3 (fun n428 => ckI (0) (n428) (if (lg_cmp (tL (ρ422) (x3) (((0 : Int32)).toNatClampNeg)) ((v416).toInt64)) = (0) then J_L_law_1287 b0 fu L xs rc23  (x1) (x2) (x3) (x4) (ρ422) else some (0, ρ422))) else J_L_law_1287 b0 fu L xs rc23  (x1) (x2) (x3) (x4) (ρ422) else some (0, ρ422)))))))))) else if (y18) = (19) then ckI ((x4) + (1)) L (ckI ((x4) + (2)) L (cll (m_L_entry b0 fu (x1) (xs (((x4) + (1)).toNatClampNeg)) (xs (((x4) + (2)).toNatClampNeg)) (x3) (σ)) (fun v433 ρ434 => ckI ((x4) + (1)) L (ckI ((x4) + (2)) L (ckO b0 (ρ434) (x2) 11 (cll (m_X12_entry b0 fu (x2) (xs (((x4) + (1)).toNatClampNeg)) (xs (((x4) + (2)).toNatClampNeg)) (ρ434)) (fun v440 ρ441 => ckO b0 (ρ441) (x2) 11 (cll (m_X12_thrown b0 fu (x2) (ρ441)) (fun v445 ρ446 => if (v445) = (v433) then if (v433) = (0) then ckR b0 (ρ446) (x3) 3 (fun n452 => ckI (0) (n452) (if (lg_cmp (tL (ρ446) (x3) (((0 : Int32)).toNatClampNeg)) ((v440).toInt64)) = (0) then J_L_law_1355 b0 fu L xs rc23  (x1) (x2) (x3) (x4) (ρ446) else some (0, ρ446))) else J_L_law_1355 b0 fu L xs rc23  (x1) (x2) (x3) (x4) (ρ446) else some (0, ρ446)))))))))) else if (y18) = (20) then ckI ((x4) + (1)) L (cll (m_L_textAt b0 fu (x1) (xs (((x4) + (1)).toNatClampNeg)) (x3) (σ)) (fun v456 ρ457 => ckI ((x4) + (1)) L (ckO b0 (ρ457) (x2) 11 (cll (m_X12_textAt b0 fu (x2) (xs (((x4) + (1)).toNatClampNeg)) (ρ457)) (fun v462 ρ463 => ckO b0 (ρ463) (x2) 11 (cll (m_X12_thrown b0 fu (x2) (ρ463)) (fun v467 ρ468 => if (v467) = (v456) then if (v456) = (0) then ckR b0 (ρ468) (x3) 3 (fun n474 => ckI (0) (n474) (if (lg_cmp (tL (ρ468) (x3) (((0 : Int32)).toNatClampNeg)) ((v462).toInt64)) = (0) then J_L_law_1411 b0 fu L xs rc23  (x1) (x2) (x3) (x4) (ρ468) else some (0, ρ468))) else J_L_law_1411 b0 fu L xs rc23  (x1) (x2) (x3) (x4) (ρ468) else some (0, ρ468)))))))) else if (y18) = (21) then ckI ((x4) + (1)) L (ckI ((x4) + (2)) L (cll (m_L_blockOf b0 fu (x1) (xs (((x4) + (1)).toNatClampNeg)) (xs (((x4) + (2)).toNatClampNeg)) (x3) (σ)) (fun v479 ρ480 => ckI ((x4) + (1)) L (ckI ((x4) + (2)) L (ckO b0 (ρ480) (x2) 11 (cll (m_X12_blockOf b0 fu (x2) (xs (((x4) + (1)).toNatClampNeg)) (xs (((x4) + (2)).toNatClampNeg)) (ρ480)) (fun v486 ρ487 => ckO b0 (ρ487) (x2) 11 (cll (m_X12_thrown b0 fu (x2) (ρ487)) (fun v491 ρ492 => if (v491) = (v479) then if (v479) = (0) then ckR b0 (ρ492) (x3) 3 (fun n498 => ckI (0) (n498) (if (lg_cmp (tL (ρ492) (x3) (((0 : Int32)).toNatClampNeg)) ((v486).toInt64)) = (0) then J_L_law_1479 b0 fu L xs rc23  (x1) (x2) (x3) (x4) (ρ492) else some (0, ρ492))) else J_L_law_1479 b0 fu L xs rc23  (x1) (x2) (x3) (x4) (ρ492) else some (0, ρ492)))))))))) else if (y18) = (22) then ckI ((x4) + (1)) L (cll (m_L_fsync b0 fu (x1) (xs (((x4) + (1)).toNatClampNeg)) (x3) (σ)) (fun v502 ρ503 => ckI ((x4) + (1)) L (ckO b0 (ρ503) (x2) 11 (cll (m_X12_fsync b0 fu (x2) (xs (((x4) + (1)).toNatClampNeg)) (ρ503)) (fun v508 ρ509 => ckO b0 (ρ509) (x2) 11 (cll (m_X12_thrown b0 fu (x2) (ρ509)) (fun v513 ρ514 => if (v513) = (v502) then if (v502) = (0) then ckR b0 (ρ514) (x3) 3 (fun n520 => ckI (0) (n520) (if (lg_cmp (tL (ρ514) (x3) (((0 : Int32)).toNatClampNeg)) ((v508).toInt64)) = (0) then J_L_law_1535 b0 fu L xs rc23  (x1) (x2) (x3) (x4) (ρ514) else some (0, ρ514))) else J_L_law_1535 b0 fu L xs rc23  (x1) (x2) (x3) (x4) (ρ514) else some (0, ρ514)))))))) else if (y18) = (23) then ckI ((x4) + (1)) L (cll (m_L_fdatasync b0 fu (x1) (xs (((x4) + (1)).toNatClampNeg)) (x3) (σ)) (fun v524 ρ525 => ckI ((x4) + (1)) L (ckO b0 (ρ525) (x2) 11 (cll (m_X12_fdatasync b0 fu (x2) (xs (((x4) + (1)).toNatClampNeg)) (ρ525)) (fun v530 ρ531 => ckO b0 (ρ531) (x2) 11 (cll (m_X12_thrown b0 fu (x2) (ρ531)) (fun v535 ρ536 => if (v535) = (v524) then if (v524) = (0) then ckR b0 (ρ536) (x3) 3 (fun n542 => ckI (0) (n542) (if (lg_cmp (tL (ρ536) (x3) (((0 : Int32)).toNatClampNeg)) ((v530).toInt64)) = (0) then J_L_law_1591 b0 fu L xs rc23  (x1) (x2) (x3) (x4) (ρ536) else some (0, ρ536))) else J_L_law_1591 b0 fu L xs rc23  (x1) (x2) (x3) (x4) (ρ536) else some (0, ρ536)))))))) else if (y18) = (24) then cll (m_L_sync b0 fu (x1) (x3) (σ)) (fun v545 ρ546 => ckO b0 (ρ546) (x2) 11 (cll (m_X12_sync b0 fu (x2) (ρ546)) (fun v550 ρ551 => ckO b0 (ρ551) (x2) 11 (cll (m_X12_thrown b0 fu (x2) (ρ551)) (fun v555 ρ556 => if (v555) = (v545) then if (v545) = (0) then ckR b0 (ρ556) (x3) 3 (fun n562 => ckI (0) (n562) (if (lg_cmp (tL (ρ556) (x3) (((0 : Int32)).toNatClampNeg)) ((v550).toInt64)) = (0) then J_L_law_1635 b0 fu L xs rc23  (x1) (x2) (x3) (x4) (ρ556) else some (0, ρ556))) else J_L_law_1635 b0 fu L xs rc23  (x1) (x2) (x3) (x4) (ρ556) else some (0, ρ556)))))) else if (y18) = (25) then cll (m_L_post b0 fu (x1) (x3) (σ)) (fun v565 ρ566 => ckO b0 (ρ566) (x2) 11 (cll (m_X12_post b0 fu (x2) (ρ566)) (fun v570 ρ571 => ckO b0 (ρ571) (x2) 11 (cll (m_X12_thrown b0 fu (x2) (ρ571)) (fun v575 ρ576 => if (v575) = (v565) then if (v565) = (0) then ckR b0 (ρ576) (x3) 3 (fun n582 => ckI (0) (n582) (if (lg_cmp (tL (ρ576) (x3) (((0 : Int32)).toNatClampNeg)) ((v570).toInt64)) = (0) then J_L_law_1679 b0 fu L xs rc23  (x1) (x2) (x3) (x4) (ρ576) else some (0, ρ576))) else J_L_law_1679 b0 fu L xs rc23  (x1) (x2) (x3) (x4) (ρ576) else some (0, ρ576)))))) else if (y18) = (26) then ckI ((x4) + (1)) L (cll (m_L_writeBack b0 fu (x1) (xs (((x4) + (1)).toNatClampNeg)) (x3) (σ)) (fun v586 ρ587 => ckI ((x4) + (1)) L (ckO b0 (ρ587) (x2) 11 (cll (m_X12_writeBack b0 fu (x2) (xs (((x4) + (1)).toNatClampNeg)) (ρ587)) (fun v592 ρ593 => ckO b0 (ρ593) (x2) 11 (cll (m_X12_thrown b0 fu (x2) (ρ593)) (fun v597 ρ598 => if (v597) = (v586) then if (v586) = (0) then ckR b0 (ρ598) (x3) 3 (fun n604 => ckI (0) (n604) (if (lg_cmp (tL (ρ598) (x3) (((0 : Int32)).toNatClampNeg)) ((v592).toInt64)) = (0) then J_L_law_1735 b0 fu L xs rc23  (x1) (x2) (x3) (x4) (ρ598) else some (0, ρ598))) else J_L_law_1735 b0 fu L xs rc23  (x1) (x2) (x3) (x4) (ρ598) else some (0, ρ598)))))))) else if (y18) = (27) then ckI ((x4) + (1)) L (cll (m_L_apply b0 fu (x1) (xs (((x4) + (1)).toNatClampNeg)) (x3) (σ)) (fun v608 ρ609 => ckI ((x4) + (1)) L (ckO b0 (ρ609) (x2) 11 (cll (m_X12_apply b0 fu (x2) (xs (((x4) + (1)).toNatClampNeg)) (ρ609)) (fun v614 ρ615 => ckO b0 (ρ615) (x2) 11 (cll (m_X12_thrown b0 fu (x2) (ρ615)) (fun v619 ρ620 => if (v619) = (v608) then if (v608) = (0) then ckR b0 (ρ620) (x3) 3 (fun n626 => ckI (0) (n626) (if (lg_cmp (tL (ρ620) (x3) (((0 : Int32)).toNatClampNeg)) ((v614).toInt64)) = (0) then J_L_law_1791 b0 fu L xs rc23  (x1) (x2) (x3) (x4) (ρ620) else some (0, ρ620))) else J_L_law_1791 b0 fu L xs rc23  (x1) (x2) (x3) (x4) (ρ620) else some (0, ρ620)))))))) else if (y18) = (28) then ckI ((x4) + (1)) L (ckO b0 (σ) (x1) 10 (cll (m_X10_cut b0 fu (x1) (xs (((x4) + (1)).toNatClampNeg)) (σ)) (fun v632 ρ633 => ckI ((x4) + (1)) L (ckO b0 (ρ633) (x2) 11 (cll (m_X12_cut b0 fu (x2) (xs (((x4) + (1)).toNatClampNeg)) (ρ633)) (fun v638 ρ639 => if (v632) = (v638) then J_L_law_2051 b0 fu L xs rc23  (x1) (x2) (x3) (x4) (ρ639) else some (0, ρ639))))))) else if (y18) = (29) then cll (m_L_crash b0 fu (x1) (x3) (σ)) (fun v642 ρ643 => ckO b0 (ρ643) (x2) 11 (cll (m_X12_crash b0 fu (x2) (ρ643)) (fun v647 ρ648 => ckO b0 (ρ648) (x2) 11 (cll (m_X12_thrown b0 fu (x2) (ρ648)) (fun v652 ρ653 => if (v652) = (v642) then if (v642) = (0) then ckR b0 (ρ653) (x3) 3 (fun n659 => ckI (0) (n659) (if (lg_cmp (tL (ρ653) (x3) (((0 : Int32)).toNatClampNeg)) ((v647).toInt64)) = (0) then J_L_law_1860 b0 fu L xs rc23  (x1) (x2) (x3) (x4) (ρ653) else some (0, ρ653))) else J_L_law_1860 b0 fu L xs rc23  (x1) (x2) (x3) (x4) (ρ653) else some (0, ρ653)))))) else if (y18) = (30) then ckI ((x4) + (1)) L (ckI ((x4) + (2)) L (ckO b0 (σ) (x1) 10 (cll (m_X10_choose b0 fu (x1) (xs (((x4) + (1)).toNatClampNeg)) (xs (((x4) + (2)).toNatClampNeg)) (σ)) (fun v666 ρ667 => ckI ((x4) + (1)) L (ckI ((x4) + (2)) L (ckO b0 (ρ667) (x2) 11 (cll (m_X12_choose b0 fu (x2) (xs (((x4) + (1)).toNatClampNeg)) (xs (((x4) + (2)).toNatClampNeg)) (ρ667)) (fun v673 ρ674 => if (v666) = (v673) then J_L_law_2051 b0 fu L xs rc23  (x1) (x2) (x3) (x4) (ρ674) else some (0, ρ674))))))))) else if (y18) = (31) then ckI ((x4) + (1)) L (ckI ((x4) + (2)) L (ckO b0 (σ) (x1) 10 (cll (m_X10_shuffle b0 fu (x1) ((((xs (((x4) + (1)).toNatClampNeg)).toInt64) <<< (((32 : Int32)).toInt64 &&& 63)) ||| (((xs (((x4) + (2)).toNatClampNeg)).toInt64) &&& (4294967295))) (σ)) (fun v681 ρ682 => ckI ((x4) + (1)) L (ckI ((x4) + (2)) L (ckO b0 (ρ682) (x2) 11 (cll (m_X12_shuffle b0 fu (x2) ((((xs (((x4) + (1)).toNatClampNeg)).toInt64) <<< (((32 : Int32)).toInt64 &&& 63)) ||| (((xs (((x4) + (2)).toNatClampNeg)).toInt64) &&& (4294967295))) (ρ682)) (fun v688 ρ689 => if (v681) = (v688) then J_L_law_2051 b0 fu L xs rc23  (x1) (x2) (x3) (x4) (ρ689) else some (0, ρ689))))))))) else if (y18) = (32) then cll (m_L_recover b0 fu (x1) (x3) (σ)) (fun v692 ρ693 => ckO b0 (ρ693) (x2) 11 (cll (m_X12_recover b0 fu (x2) (ρ693)) (fun v697 ρ698 => ckO b0 (ρ698) (x2) 11 (cll (m_X12_thrown b0 fu (x2) (ρ698)) (fun v702 ρ703 => if (v702) = (v692) then if (v692) = (0) then ckR b0 (ρ703) (x3) 3 (fun n709 => ckI (0) (n709) (if (lg_cmp (tL (ρ703) (x3) (((0 : Int32)).toNatClampNeg)) ((v697).toInt64)) = (0) then J_L_law_1998 b0 fu L xs rc23  (x1) (x2) (x3) (x4) (ρ703) else some (0, ρ703))) else J_L_law_1998 b0 fu L xs rc23  (x1) (x2) (x3) (x4) (ρ703) else some (0, ρ703)))))) else if (y18) = (33) then ckI ((x4) + (1)) L (ckO b0 (σ) (x1) 10 (cll (m_X10_versions b0 fu (x1) (xs (((x4) + (1)).toNatClampNeg)) (σ)) (fun v715 ρ716 => ckI ((x4) + (1)) L (ckO b0 (ρ716) (x2) 11 (cll (m_X12_versions b0 fu (x2) (xs (((x4) + (1)).toNatClampNeg)) (ρ716)) (fun v721 ρ722 => if (v715) = (v721) then J_L_law_2051 b0 fu L xs rc23  (x1) (x2) (x3) (x4) (ρ722) else some (0, ρ722))))))) else if (y18) = (34) then ckI ((x4) + (1)) L (ckO b0 (σ) (x1) 10 (cll (m_X10_total b0 fu (x1) (xs (((x4) + (1)).toNatClampNeg)) (σ)) (fun v728 ρ729 => ckI ((x4) + (1)) L (ckO b0 (ρ729) (x2) 11 (cll (m_X12_total b0 fu (x2) (xs (((x4) + (1)).toNatClampNeg)) (ρ729)) (fun v734 ρ735 => if (v728) = (v734) then J_L_law_2051 b0 fu L xs rc23  (x1) (x2) (x3) (x4) (ρ735) else some (0, ρ735))))))) else J_L_law_2051 b0 fu L xs rc23  (x1) (x2) (x3) (x4) (σ))))
def m_L_law (b0 fu : Nat) (L : Nat) (xs : Nat → Int32) (σ : tM) : Option ((Int32) × tM) := grw σ (ltb (sN (σ) (b0 + tn σ) (.inl 10) 10) (fun ρ1 => cll (m_X10_init b0 fu (b0 + tn σ) (ρ1)) (fun v4 ρ5 => ltb (sN (ρ5) (b0 + tn ρ5) (.inl 11) 60) (fun ρ7 => cll (m_X12_init b0 fu (b0 + tn ρ5) (ρ7)) (fun v10 ρ11 => ltb (sN (ρ11) (b0 + tn ρ11) (.inr (3, ((1 : Int32)).toNatClampNeg)) (((1 : Int32)).toNatClampNeg)) (fun ρ13 => L_L_law_23 b0 fu L xs  (fu) (b0 + tn σ) (b0 + tn ρ5) (b0 + tn ρ11) (0) (ρ13)))))))
set_option maxRecDepth 100000 in
set_option maxHeartbeats 1000000 in
theorem j_L_law_2051 {p : Program} {l : Launch} {e : Env} {s : State} {m : MethodId} {args : Array Value} {below : List Frame} {meth : Method} {c : Code} {D : va_G} {aC : Nat → ClassId} {b0 fu : Nat} {σ0 τ : tM} {v : Int32} {b L : Nat} {xs : Nat → Int32} {rc23 : Nat → Nat → Nat → Int32 → tM → Option ((Int32) × tM)} (C : tCx p l s m args meth c yL_law.cls cL_law 8 (some .boolean) D aC b0 σ0) (htab : True) (hin : True) (hX : va_X b L xs s s.heap) (hbb : b < b0) (hrc23 : ∀ (x1 : Nat) (x2 : Nat) (x3 : Nat) (x4 : Int32) (ρ : tM), rc23 x1 x2 x3 x4 ρ = some (v, τ) → tX p l e s m args below meth c 8 14 271 D aC b0 σ0 (.inl (some (.int v))) τ 23 [(0, .ref (b)), (1, .ref (x1)), (2, .ref (x2)), (3, .ref (x3)), (4, .int (x4))] [] ρ) {x1 : Nat} {x2 : Nat} {x3 : Nat} {x4 : Int32} {σ : tM} (hm : J_L_law_2051 b0 fu L xs rc23 x1 x2 x3 x4 σ = some (v, τ)) : tX p l e s m args below meth c 8 14 271 D aC b0 σ0 (.inl (some (.int v))) τ 2051 [(0, .ref (b)), (1, .ref (x1)), (2, .ref (x2)), (3, .ref (x3)), (4, .int (x4))] [] σ := by
  unfold J_L_law_2051 at hm
  obtain ⟨y34, hy34⟩ : ∃ z : Int32, z = (x4) + Int32.ofInt 6 := ⟨_, rfl⟩
  replace hm := ltb_e hm hy34
  refine zx_iinc C [(4, .int (y34)), (0, .ref (b)), (1, .ref (x1)), (2, .ref (x2)), (3, .ref (x3))] dL_law_2051 4 rfl hy34.symm (by decide) rfl ?_
  refine zx_goto C 23 dL_law_2054 (by decide) ?_
  exact zx_lv [1, 2, 3, 4, 0] [(0, .ref (b)), (1, .ref (x1)), (2, .ref (x2)), (3, .ref (x3)), (4, .int (y34))] rfl (hrc23 _ _ _ _ _ hm)
set_option maxRecDepth 100000 in
set_option maxHeartbeats 1000000 in
theorem j_L_law_384 {p : Program} {l : Launch} {e : Env} {s : State} {m : MethodId} {args : Array Value} {below : List Frame} {meth : Method} {c : Code} {D : va_G} {aC : Nat → ClassId} {b0 fu : Nat} {σ0 τ : tM} {v : Int32} {b L : Nat} {xs : Nat → Int32} {rc23 : Nat → Nat → Nat → Int32 → tM → Option ((Int32) × tM)} (C : tCx p l s m args meth c yL_law.cls cL_law 8 (some .boolean) D aC b0 σ0) (htab : True) (hin : True) (hX : va_X b L xs s s.heap) (hbb : b < b0) (hrc23 : ∀ (x1 : Nat) (x2 : Nat) (x3 : Nat) (x4 : Int32) (ρ : tM), rc23 x1 x2 x3 x4 ρ = some (v, τ) → tX p l e s m args below meth c 8 14 271 D aC b0 σ0 (.inl (some (.int v))) τ 23 [(0, .ref (b)), (1, .ref (x1)), (2, .ref (x2)), (3, .ref (x3)), (4, .int (x4))] [] ρ) {x1 : Nat} {x2 : Nat} {x3 : Nat} {x4 : Int32} {σ : tM} (hm : J_L_law_384 b0 fu L xs rc23 x1 x2 x3 x4 σ = some (v, τ)) : tX p l e s m args below meth c 8 14 271 D aC b0 σ0 (.inl (some (.int v))) τ 384 [(0, .ref (b)), (1, .ref (x1)), (2, .ref (x2)), (3, .ref (x3)), (4, .int (x4))] [] σ := by
  unfold J_L_law_384 at hm
  refine zx_goto C 2051 dL_law_384 (by decide) ?_
  exact zx_lv [0, 1, 2, 3, 4] [(0, .ref (b)), (1, .ref (x1)), (2, .ref (x2)), (3, .ref (x3)), (4, .int (x4))] rfl (j_L_law_2051 C htab hin hX hbb hrc23   hm)
set_option maxRecDepth 100000 in
set_option maxHeartbeats 1000000 in
theorem j_L_law_428 {p : Program} {l : Launch} {e : Env} {s : State} {m : MethodId} {args : Array Value} {below : List Frame} {meth : Method} {c : Code} {D : va_G} {aC : Nat → ClassId} {b0 fu : Nat} {σ0 τ : tM} {v : Int32} {b L : Nat} {xs : Nat → Int32} {rc23 : Nat → Nat → Nat → Int32 → tM → Option ((Int32) × tM)} (C : tCx p l s m args meth c yL_law.cls cL_law 8 (some .boolean) D aC b0 σ0) (htab : True) (hin : True) (hX : va_X b L xs s s.heap) (hbb : b < b0) (hrc23 : ∀ (x1 : Nat) (x2 : Nat) (x3 : Nat) (x4 : Int32) (ρ : tM), rc23 x1 x2 x3 x4 ρ = some (v, τ) → tX p l e s m args below meth c 8 14 271 D aC b0 σ0 (.inl (some (.int v))) τ 23 [(0, .ref (b)), (1, .ref (x1)), (2, .ref (x2)), (3, .ref (x3)), (4, .int (x4))] [] ρ) {x1 : Nat} {x2 : Nat} {x3 : Nat} {x4 : Int32} {σ : tM} (hm : J_L_law_428 b0 fu L xs rc23 x1 x2 x3 x4 σ = some (v, τ)) : tX p l e s m args below meth c 8 14 271 D aC b0 σ0 (.inl (some (.int v))) τ 428 [(0, .ref (b)), (1, .ref (x1)), (2, .ref (x2)), (3, .ref (x3)), (4, .int (x4))] [] σ := by
  unfold J_L_law_428 at hm
  refine zx_goto C 2051 dL_law_428 (by decide) ?_
  exact zx_lv [0, 1, 2, 3, 4] [(0, .ref (b)), (1, .ref (x1)), (2, .ref (x2)), (3, .ref (x3)), (4, .int (x4))] rfl (j_L_law_2051 C htab hin hX hbb hrc23   hm)
set_option maxRecDepth 100000 in
set_option maxHeartbeats 1000000 in
theorem j_L_law_472 {p : Program} {l : Launch} {e : Env} {s : State} {m : MethodId} {args : Array Value} {below : List Frame} {meth : Method} {c : Code} {D : va_G} {aC : Nat → ClassId} {b0 fu : Nat} {σ0 τ : tM} {v : Int32} {b L : Nat} {xs : Nat → Int32} {rc23 : Nat → Nat → Nat → Int32 → tM → Option ((Int32) × tM)} (C : tCx p l s m args meth c yL_law.cls cL_law 8 (some .boolean) D aC b0 σ0) (htab : True) (hin : True) (hX : va_X b L xs s s.heap) (hbb : b < b0) (hrc23 : ∀ (x1 : Nat) (x2 : Nat) (x3 : Nat) (x4 : Int32) (ρ : tM), rc23 x1 x2 x3 x4 ρ = some (v, τ) → tX p l e s m args below meth c 8 14 271 D aC b0 σ0 (.inl (some (.int v))) τ 23 [(0, .ref (b)), (1, .ref (x1)), (2, .ref (x2)), (3, .ref (x3)), (4, .int (x4))] [] ρ) {x1 : Nat} {x2 : Nat} {x3 : Nat} {x4 : Int32} {σ : tM} (hm : J_L_law_472 b0 fu L xs rc23 x1 x2 x3 x4 σ = some (v, τ)) : tX p l e s m args below meth c 8 14 271 D aC b0 σ0 (.inl (some (.int v))) τ 472 [(0, .ref (b)), (1, .ref (x1)), (2, .ref (x2)), (3, .ref (x3)), (4, .int (x4))] [] σ := by
  unfold J_L_law_472 at hm
  refine zx_goto C 2051 dL_law_472 (by decide) ?_
  exact zx_lv [0, 1, 2, 3, 4] [(0, .ref (b)), (1, .ref (x1)), (2, .ref (x2)), (3, .ref (x3)), (4, .int (x4))] rfl (j_L_law_2051 C htab hin hX hbb hrc23   hm)
set_option maxRecDepth 100000 in
set_option maxHeartbeats 1000000 in
theorem j_L_law_516 {p : Program} {l : Launch} {e : Env} {s : State} {m : MethodId} {args : Array Value} {below : List Frame} {meth : Method} {c : Code} {D : va_G} {aC : Nat → ClassId} {b0 fu : Nat} {σ0 τ : tM} {v : Int32} {b L : Nat} {xs : Nat → Int32} {rc23 : Nat → Nat → Nat → Int32 → tM → Option ((Int32) × tM)} (C : tCx p l s m args meth c yL_law.cls cL_law 8 (some .boolean) D aC b0 σ0) (htab : True) (hin : True) (hX : va_X b L xs s s.heap) (hbb : b < b0) (hrc23 : ∀ (x1 : Nat) (x2 : Nat) (x3 : Nat) (x4 : Int32) (ρ : tM), rc23 x1 x2 x3 x4 ρ = some (v, τ) → tX p l e s m args below meth c 8 14 271 D aC b0 σ0 (.inl (some (.int v))) τ 23 [(0, .ref (b)), (1, .ref (x1)), (2, .ref (x2)), (3, .ref (x3)), (4, .int (x4))] [] ρ) {x1 : Nat} {x2 : Nat} {x3 : Nat} {x4 : Int32} {σ : tM} (hm : J_L_law_516 b0 fu L xs rc23 x1 x2 x3 x4 σ = some (v, τ)) : tX p l e s m args below meth c 8 14 271 D aC b0 σ0 (.inl (some (.int v))) τ 516 [(0, .ref (b)), (1, .ref (x1)), (2, .ref (x2)), (3, .ref (x3)), (4, .int (x4))] [] σ := by
  unfold J_L_law_516 at hm
  refine zx_goto C 2051 dL_law_516 (by decide) ?_
  exact zx_lv [0, 1, 2, 3, 4] [(0, .ref (b)), (1, .ref (x1)), (2, .ref (x2)), (3, .ref (x3)), (4, .int (x4))] rfl (j_L_law_2051 C htab hin hX hbb hrc23   hm)
set_option maxRecDepth 100000 in
set_option maxHeartbeats 1000000 in
theorem j_L_law_560 {p : Program} {l : Launch} {e : Env} {s : State} {m : MethodId} {args : Array Value} {below : List Frame} {meth : Method} {c : Code} {D : va_G} {aC : Nat → ClassId} {b0 fu : Nat} {σ0 τ : tM} {v : Int32} {b L : Nat} {xs : Nat → Int32} {rc23 : Nat → Nat → Nat → Int32 → tM → Option ((Int32) × tM)} (C : tCx p l s m args meth c yL_law.cls cL_law 8 (some .boolean) D aC b0 σ0) (htab : True) (hin : True) (hX : va_X b L xs s s.heap) (hbb : b < b0) (hrc23 : ∀ (x1 : Nat) (x2 : Nat) (x3 : Nat) (x4 : Int32) (ρ : tM), rc23 x1 x2 x3 x4 ρ = some (v, τ) → tX p l e s m args below meth c 8 14 271 D aC b0 σ0 (.inl (some (.int v))) τ 23 [(0, .ref (b)), (1, .ref (x1)), (2, .ref (x2)), (3, .ref (x3)), (4, .int (x4))] [] ρ) {x1 : Nat} {x2 : Nat} {x3 : Nat} {x4 : Int32} {σ : tM} (hm : J_L_law_560 b0 fu L xs rc23 x1 x2 x3 x4 σ = some (v, τ)) : tX p l e s m args below meth c 8 14 271 D aC b0 σ0 (.inl (some (.int v))) τ 560 [(0, .ref (b)), (1, .ref (x1)), (2, .ref (x2)), (3, .ref (x3)), (4, .int (x4))] [] σ := by
  unfold J_L_law_560 at hm
  refine zx_goto C 2051 dL_law_560 (by decide) ?_
  exact zx_lv [0, 1, 2, 3, 4] [(0, .ref (b)), (1, .ref (x1)), (2, .ref (x2)), (3, .ref (x3)), (4, .int (x4))] rfl (j_L_law_2051 C htab hin hX hbb hrc23   hm)
set_option maxRecDepth 100000 in
set_option maxHeartbeats 1000000 in
theorem j_L_law_604 {p : Program} {l : Launch} {e : Env} {s : State} {m : MethodId} {args : Array Value} {below : List Frame} {meth : Method} {c : Code} {D : va_G} {aC : Nat → ClassId} {b0 fu : Nat} {σ0 τ : tM} {v : Int32} {b L : Nat} {xs : Nat → Int32} {rc23 : Nat → Nat → Nat → Int32 → tM → Option ((Int32) × tM)} (C : tCx p l s m args meth c yL_law.cls cL_law 8 (some .boolean) D aC b0 σ0) (htab : True) (hin : True) (hX : va_X b L xs s s.heap) (hbb : b < b0) (hrc23 : ∀ (x1 : Nat) (x2 : Nat) (x3 : Nat) (x4 : Int32) (ρ : tM), rc23 x1 x2 x3 x4 ρ = some (v, τ) → tX p l e s m args below meth c 8 14 271 D aC b0 σ0 (.inl (some (.int v))) τ 23 [(0, .ref (b)), (1, .ref (x1)), (2, .ref (x2)), (3, .ref (x3)), (4, .int (x4))] [] ρ) {x1 : Nat} {x2 : Nat} {x3 : Nat} {x4 : Int32} {σ : tM} (hm : J_L_law_604 b0 fu L xs rc23 x1 x2 x3 x4 σ = some (v, τ)) : tX p l e s m args below meth c 8 14 271 D aC b0 σ0 (.inl (some (.int v))) τ 604 [(0, .ref (b)), (1, .ref (x1)), (2, .ref (x2)), (3, .ref (x3)), (4, .int (x4))] [] σ := by
  unfold J_L_law_604 at hm
  refine zx_goto C 2051 dL_law_604 (by decide) ?_
  exact zx_lv [0, 1, 2, 3, 4] [(0, .ref (b)), (1, .ref (x1)), (2, .ref (x2)), (3, .ref (x3)), (4, .int (x4))] rfl (j_L_law_2051 C htab hin hX hbb hrc23   hm)
set_option maxRecDepth 100000 in
set_option maxHeartbeats 1000000 in
theorem j_L_law_648 {p : Program} {l : Launch} {e : Env} {s : State} {m : MethodId} {args : Array Value} {below : List Frame} {meth : Method} {c : Code} {D : va_G} {aC : Nat → ClassId} {b0 fu : Nat} {σ0 τ : tM} {v : Int32} {b L : Nat} {xs : Nat → Int32} {rc23 : Nat → Nat → Nat → Int32 → tM → Option ((Int32) × tM)} (C : tCx p l s m args meth c yL_law.cls cL_law 8 (some .boolean) D aC b0 σ0) (htab : True) (hin : True) (hX : va_X b L xs s s.heap) (hbb : b < b0) (hrc23 : ∀ (x1 : Nat) (x2 : Nat) (x3 : Nat) (x4 : Int32) (ρ : tM), rc23 x1 x2 x3 x4 ρ = some (v, τ) → tX p l e s m args below meth c 8 14 271 D aC b0 σ0 (.inl (some (.int v))) τ 23 [(0, .ref (b)), (1, .ref (x1)), (2, .ref (x2)), (3, .ref (x3)), (4, .int (x4))] [] ρ) {x1 : Nat} {x2 : Nat} {x3 : Nat} {x4 : Int32} {σ : tM} (hm : J_L_law_648 b0 fu L xs rc23 x1 x2 x3 x4 σ = some (v, τ)) : tX p l e s m args below meth c 8 14 271 D aC b0 σ0 (.inl (some (.int v))) τ 648 [(0, .ref (b)), (1, .ref (x1)), (2, .ref (x2)), (3, .ref (x3)), (4, .int (x4))] [] σ := by
  unfold J_L_law_648 at hm
  refine zx_goto C 2051 dL_law_648 (by decide) ?_
  exact zx_lv [0, 1, 2, 3, 4] [(0, .ref (b)), (1, .ref (x1)), (2, .ref (x2)), (3, .ref (x3)), (4, .int (x4))] rfl (j_L_law_2051 C htab hin hX hbb hrc23   hm)
set_option maxRecDepth 100000 in
set_option maxHeartbeats 1000000 in
theorem j_L_law_692 {p : Program} {l : Launch} {e : Env} {s : State} {m : MethodId} {args : Array Value} {below : List Frame} {meth : Method} {c : Code} {D : va_G} {aC : Nat → ClassId} {b0 fu : Nat} {σ0 τ : tM} {v : Int32} {b L : Nat} {xs : Nat → Int32} {rc23 : Nat → Nat → Nat → Int32 → tM → Option ((Int32) × tM)} (C : tCx p l s m args meth c yL_law.cls cL_law 8 (some .boolean) D aC b0 σ0) (htab : True) (hin : True) (hX : va_X b L xs s s.heap) (hbb : b < b0) (hrc23 : ∀ (x1 : Nat) (x2 : Nat) (x3 : Nat) (x4 : Int32) (ρ : tM), rc23 x1 x2 x3 x4 ρ = some (v, τ) → tX p l e s m args below meth c 8 14 271 D aC b0 σ0 (.inl (some (.int v))) τ 23 [(0, .ref (b)), (1, .ref (x1)), (2, .ref (x2)), (3, .ref (x3)), (4, .int (x4))] [] ρ) {x1 : Nat} {x2 : Nat} {x3 : Nat} {x4 : Int32} {σ : tM} (hm : J_L_law_692 b0 fu L xs rc23 x1 x2 x3 x4 σ = some (v, τ)) : tX p l e s m args below meth c 8 14 271 D aC b0 σ0 (.inl (some (.int v))) τ 692 [(0, .ref (b)), (1, .ref (x1)), (2, .ref (x2)), (3, .ref (x3)), (4, .int (x4))] [] σ := by
  unfold J_L_law_692 at hm
  refine zx_goto C 2051 dL_law_692 (by decide) ?_
  exact zx_lv [0, 1, 2, 3, 4] [(0, .ref (b)), (1, .ref (x1)), (2, .ref (x2)), (3, .ref (x3)), (4, .int (x4))] rfl (j_L_law_2051 C htab hin hX hbb hrc23   hm)
set_option maxRecDepth 100000 in
set_option maxHeartbeats 1000000 in
theorem j_L_law_748 {p : Program} {l : Launch} {e : Env} {s : State} {m : MethodId} {args : Array Value} {below : List Frame} {meth : Method} {c : Code} {D : va_G} {aC : Nat → ClassId} {b0 fu : Nat} {σ0 τ : tM} {v : Int32} {b L : Nat} {xs : Nat → Int32} {rc23 : Nat → Nat → Nat → Int32 → tM → Option ((Int32) × tM)} (C : tCx p l s m args meth c yL_law.cls cL_law 8 (some .boolean) D aC b0 σ0) (htab : True) (hin : True) (hX : va_X b L xs s s.heap) (hbb : b < b0) (hrc23 : ∀ (x1 : Nat) (x2 : Nat) (x3 : Nat) (x4 : Int32) (ρ : tM), rc23 x1 x2 x3 x4 ρ = some (v, τ) → tX p l e s m args below meth c 8 14 271 D aC b0 σ0 (.inl (some (.int v))) τ 23 [(0, .ref (b)), (1, .ref (x1)), (2, .ref (x2)), (3, .ref (x3)), (4, .int (x4))] [] ρ) {x1 : Nat} {x2 : Nat} {x3 : Nat} {x4 : Int32} {σ : tM} (hm : J_L_law_748 b0 fu L xs rc23 x1 x2 x3 x4 σ = some (v, τ)) : tX p l e s m args below meth c 8 14 271 D aC b0 σ0 (.inl (some (.int v))) τ 748 [(0, .ref (b)), (1, .ref (x1)), (2, .ref (x2)), (3, .ref (x3)), (4, .int (x4))] [] σ := by
  unfold J_L_law_748 at hm
  refine zx_goto C 2051 dL_law_748 (by decide) ?_
  exact zx_lv [0, 1, 2, 3, 4] [(0, .ref (b)), (1, .ref (x1)), (2, .ref (x2)), (3, .ref (x3)), (4, .int (x4))] rfl (j_L_law_2051 C htab hin hX hbb hrc23   hm)
set_option maxRecDepth 100000 in
set_option maxHeartbeats 1000000 in
theorem j_L_law_828 {p : Program} {l : Launch} {e : Env} {s : State} {m : MethodId} {args : Array Value} {below : List Frame} {meth : Method} {c : Code} {D : va_G} {aC : Nat → ClassId} {b0 fu : Nat} {σ0 τ : tM} {v : Int32} {b L : Nat} {xs : Nat → Int32} {rc23 : Nat → Nat → Nat → Int32 → tM → Option ((Int32) × tM)} (C : tCx p l s m args meth c yL_law.cls cL_law 8 (some .boolean) D aC b0 σ0) (htab : True) (hin : True) (hX : va_X b L xs s s.heap) (hbb : b < b0) (hrc23 : ∀ (x1 : Nat) (x2 : Nat) (x3 : Nat) (x4 : Int32) (ρ : tM), rc23 x1 x2 x3 x4 ρ = some (v, τ) → tX p l e s m args below meth c 8 14 271 D aC b0 σ0 (.inl (some (.int v))) τ 23 [(0, .ref (b)), (1, .ref (x1)), (2, .ref (x2)), (3, .ref (x3)), (4, .int (x4))] [] ρ) {x1 : Nat} {x2 : Nat} {x3 : Nat} {x4 : Int32} {σ : tM} (hm : J_L_law_828 b0 fu L xs rc23 x1 x2 x3 x4 σ = some (v, τ)) : tX p l e s m args below meth c 8 14 271 D aC b0 σ0 (.inl (some (.int v))) τ 828 [(0, .ref (b)), (1, .ref (x1)), (2, .ref (x2)), (3, .ref (x3)), (4, .int (x4))] [] σ := by
  unfold J_L_law_828 at hm
  refine zx_goto C 2051 dL_law_828 (by decide) ?_
  exact zx_lv [0, 1, 2, 3, 4] [(0, .ref (b)), (1, .ref (x1)), (2, .ref (x2)), (3, .ref (x3)), (4, .int (x4))] rfl (j_L_law_2051 C htab hin hX hbb hrc23   hm)
set_option maxRecDepth 100000 in
set_option maxHeartbeats 1000000 in
theorem j_L_law_920 {p : Program} {l : Launch} {e : Env} {s : State} {m : MethodId} {args : Array Value} {below : List Frame} {meth : Method} {c : Code} {D : va_G} {aC : Nat → ClassId} {b0 fu : Nat} {σ0 τ : tM} {v : Int32} {b L : Nat} {xs : Nat → Int32} {rc23 : Nat → Nat → Nat → Int32 → tM → Option ((Int32) × tM)} (C : tCx p l s m args meth c yL_law.cls cL_law 8 (some .boolean) D aC b0 σ0) (htab : True) (hin : True) (hX : va_X b L xs s s.heap) (hbb : b < b0) (hrc23 : ∀ (x1 : Nat) (x2 : Nat) (x3 : Nat) (x4 : Int32) (ρ : tM), rc23 x1 x2 x3 x4 ρ = some (v, τ) → tX p l e s m args below meth c 8 14 271 D aC b0 σ0 (.inl (some (.int v))) τ 23 [(0, .ref (b)), (1, .ref (x1)), (2, .ref (x2)), (3, .ref (x3)), (4, .int (x4))] [] ρ) {x1 : Nat} {x2 : Nat} {x3 : Nat} {x4 : Int32} {σ : tM} (hm : J_L_law_920 b0 fu L xs rc23 x1 x2 x3 x4 σ = some (v, τ)) : tX p l e s m args below meth c 8 14 271 D aC b0 σ0 (.inl (some (.int v))) τ 920 [(0, .ref (b)), (1, .ref (x1)), (2, .ref (x2)), (3, .ref (x3)), (4, .int (x4))] [] σ := by
  unfold J_L_law_920 at hm
  refine zx_goto C 2051 dL_law_920 (by decide) ?_
  exact zx_lv [0, 1, 2, 3, 4] [(0, .ref (b)), (1, .ref (x1)), (2, .ref (x2)), (3, .ref (x3)), (4, .int (x4))] rfl (j_L_law_2051 C htab hin hX hbb hrc23   hm)
set_option maxRecDepth 100000 in
set_option maxHeartbeats 1000000 in
theorem j_L_law_988 {p : Program} {l : Launch} {e : Env} {s : State} {m : MethodId} {args : Array Value} {below : List Frame} {meth : Method} {c : Code} {D : va_G} {aC : Nat → ClassId} {b0 fu : Nat} {σ0 τ : tM} {v : Int32} {b L : Nat} {xs : Nat → Int32} {rc23 : Nat → Nat → Nat → Int32 → tM → Option ((Int32) × tM)} (C : tCx p l s m args meth c yL_law.cls cL_law 8 (some .boolean) D aC b0 σ0) (htab : True) (hin : True) (hX : va_X b L xs s s.heap) (hbb : b < b0) (hrc23 : ∀ (x1 : Nat) (x2 : Nat) (x3 : Nat) (x4 : Int32) (ρ : tM), rc23 x1 x2 x3 x4 ρ = some (v, τ) → tX p l e s m args below meth c 8 14 271 D aC b0 σ0 (.inl (some (.int v))) τ 23 [(0, .ref (b)), (1, .ref (x1)), (2, .ref (x2)), (3, .ref (x3)), (4, .int (x4))] [] ρ) {x1 : Nat} {x2 : Nat} {x3 : Nat} {x4 : Int32} {σ : tM} (hm : J_L_law_988 b0 fu L xs rc23 x1 x2 x3 x4 σ = some (v, τ)) : tX p l e s m args below meth c 8 14 271 D aC b0 σ0 (.inl (some (.int v))) τ 988 [(0, .ref (b)), (1, .ref (x1)), (2, .ref (x2)), (3, .ref (x3)), (4, .int (x4))] [] σ := by
  unfold J_L_law_988 at hm
  refine zx_goto C 2051 dL_law_988 (by decide) ?_
  exact zx_lv [0, 1, 2, 3, 4] [(0, .ref (b)), (1, .ref (x1)), (2, .ref (x2)), (3, .ref (x3)), (4, .int (x4))] rfl (j_L_law_2051 C htab hin hX hbb hrc23   hm)
set_option maxRecDepth 100000 in
set_option maxHeartbeats 1000000 in
theorem j_L_law_1056 {p : Program} {l : Launch} {e : Env} {s : State} {m : MethodId} {args : Array Value} {below : List Frame} {meth : Method} {c : Code} {D : va_G} {aC : Nat → ClassId} {b0 fu : Nat} {σ0 τ : tM} {v : Int32} {b L : Nat} {xs : Nat → Int32} {rc23 : Nat → Nat → Nat → Int32 → tM → Option ((Int32) × tM)} (C : tCx p l s m args meth c yL_law.cls cL_law 8 (some .boolean) D aC b0 σ0) (htab : True) (hin : True) (hX : va_X b L xs s s.heap) (hbb : b < b0) (hrc23 : ∀ (x1 : Nat) (x2 : Nat) (x3 : Nat) (x4 : Int32) (ρ : tM), rc23 x1 x2 x3 x4 ρ = some (v, τ) → tX p l e s m args below meth c 8 14 271 D aC b0 σ0 (.inl (some (.int v))) τ 23 [(0, .ref (b)), (1, .ref (x1)), (2, .ref (x2)), (3, .ref (x3)), (4, .int (x4))] [] ρ) {x1 : Nat} {x2 : Nat} {x3 : Nat} {x4 : Int32} {σ : tM} (hm : J_L_law_1056 b0 fu L xs rc23 x1 x2 x3 x4 σ = some (v, τ)) : tX p l e s m args below meth c 8 14 271 D aC b0 σ0 (.inl (some (.int v))) τ 1056 [(0, .ref (b)), (1, .ref (x1)), (2, .ref (x2)), (3, .ref (x3)), (4, .int (x4))] [] σ := by
  unfold J_L_law_1056 at hm
  refine zx_goto C 2051 dL_law_1056 (by decide) ?_
  exact zx_lv [0, 1, 2, 3, 4] [(0, .ref (b)), (1, .ref (x1)), (2, .ref (x2)), (3, .ref (x3)), (4, .int (x4))] rfl (j_L_law_2051 C htab hin hX hbb hrc23   hm)
set_option maxRecDepth 100000 in
set_option maxHeartbeats 1000000 in
theorem j_L_law_1135 {p : Program} {l : Launch} {e : Env} {s : State} {m : MethodId} {args : Array Value} {below : List Frame} {meth : Method} {c : Code} {D : va_G} {aC : Nat → ClassId} {b0 fu : Nat} {σ0 τ : tM} {v : Int32} {b L : Nat} {xs : Nat → Int32} {rc23 : Nat → Nat → Nat → Int32 → tM → Option ((Int32) × tM)} (C : tCx p l s m args meth c yL_law.cls cL_law 8 (some .boolean) D aC b0 σ0) (htab : True) (hin : True) (hX : va_X b L xs s s.heap) (hbb : b < b0) (hrc23 : ∀ (x1 : Nat) (x2 : Nat) (x3 : Nat) (x4 : Int32) (ρ : tM), rc23 x1 x2 x3 x4 ρ = some (v, τ) → tX p l e s m args below meth c 8 14 271 D aC b0 σ0 (.inl (some (.int v))) τ 23 [(0, .ref (b)), (1, .ref (x1)), (2, .ref (x2)), (3, .ref (x3)), (4, .int (x4))] [] ρ) {x1 : Nat} {x2 : Nat} {x3 : Nat} {x4 : Int32} {σ : tM} (hm : J_L_law_1135 b0 fu L xs rc23 x1 x2 x3 x4 σ = some (v, τ)) : tX p l e s m args below meth c 8 14 271 D aC b0 σ0 (.inl (some (.int v))) τ 1135 [(0, .ref (b)), (1, .ref (x1)), (2, .ref (x2)), (3, .ref (x3)), (4, .int (x4))] [] σ := by
  unfold J_L_law_1135 at hm
  refine zx_goto C 2051 dL_law_1135 (by decide) ?_
  exact zx_lv [0, 1, 2, 3, 4] [(0, .ref (b)), (1, .ref (x1)), (2, .ref (x2)), (3, .ref (x3)), (4, .int (x4))] rfl (j_L_law_2051 C htab hin hX hbb hrc23   hm)
set_option maxRecDepth 100000 in
set_option maxHeartbeats 1000000 in
theorem j_L_law_1219 {p : Program} {l : Launch} {e : Env} {s : State} {m : MethodId} {args : Array Value} {below : List Frame} {meth : Method} {c : Code} {D : va_G} {aC : Nat → ClassId} {b0 fu : Nat} {σ0 τ : tM} {v : Int32} {b L : Nat} {xs : Nat → Int32} {rc23 : Nat → Nat → Nat → Int32 → tM → Option ((Int32) × tM)} (C : tCx p l s m args meth c yL_law.cls cL_law 8 (some .boolean) D aC b0 σ0) (htab : True) (hin : True) (hX : va_X b L xs s s.heap) (hbb : b < b0) (hrc23 : ∀ (x1 : Nat) (x2 : Nat) (x3 : Nat) (x4 : Int32) (ρ : tM), rc23 x1 x2 x3 x4 ρ = some (v, τ) → tX p l e s m args below meth c 8 14 271 D aC b0 σ0 (.inl (some (.int v))) τ 23 [(0, .ref (b)), (1, .ref (x1)), (2, .ref (x2)), (3, .ref (x3)), (4, .int (x4))] [] ρ) {x1 : Nat} {x2 : Nat} {x3 : Nat} {x4 : Int32} {σ : tM} (hm : J_L_law_1219 b0 fu L xs rc23 x1 x2 x3 x4 σ = some (v, τ)) : tX p l e s m args below meth c 8 14 271 D aC b0 σ0 (.inl (some (.int v))) τ 1219 [(0, .ref (b)), (1, .ref (x1)), (2, .ref (x2)), (3, .ref (x3)), (4, .int (x4))] [] σ := by
  unfold J_L_law_1219 at hm
  refine zx_goto C 2051 dL_law_1219 (by decide) ?_
  exact zx_lv [0, 1, 2, 3, 4] [(0, .ref (b)), (1, .ref (x1)), (2, .ref (x2)), (3, .ref (x3)), (4, .int (x4))] rfl (j_L_law_2051 C htab hin hX hbb hrc23   hm)
set_option maxRecDepth 100000 in
set_option maxHeartbeats 1000000 in
theorem j_L_law_1186 {p : Program} {l : Launch} {e : Env} {s : State} {m : MethodId} {args : Array Value} {below : List Frame} {meth : Method} {c : Code} {D : va_G} {aC : Nat → ClassId} {b0 fu : Nat} {σ0 τ : tM} {v : Int32} {b L : Nat} {xs : Nat → Int32} {rc23 : Nat → Nat → Nat → Int32 → tM → Option ((Int32) × tM)} (C : tCx p l s m args meth c yL_law.cls cL_law 8 (some .boolean) D aC b0 σ0) (htab : True) (hin : True) (hX : va_X b L xs s s.heap) (hbb : b < b0) (hrc23 : ∀ (x1 : Nat) (x2 : Nat) (x3 : Nat) (x4 : Int32) (ρ : tM), rc23 x1 x2 x3 x4 ρ = some (v, τ) → tX p l e s m args below meth c 8 14 271 D aC b0 σ0 (.inl (some (.int v))) τ 23 [(0, .ref (b)), (1, .ref (x1)), (2, .ref (x2)), (3, .ref (x3)), (4, .int (x4))] [] ρ) {x1 : Nat} {x2 : Nat} {x3 : Nat} {x4 : Int32} {x5 : Int32} {s0 : Nat} {s1 : Int32} {s2 : Int32} {σ : tM} (hm : J_L_law_1186 b0 fu L xs rc23 x1 x2 x3 x4 x5 s0 s1 s2 σ = some (v, τ)) : tX p l e s m args below meth c 8 14 271 D aC b0 σ0 (.inl (some (.int v))) τ 1186 [(0, .ref (b)), (1, .ref (x1)), (2, .ref (x2)), (3, .ref (x3)), (4, .int (x4)), (5, .int (x5))] [.int (s2), .int (s1), .ref (s0)] σ := by
  unfold J_L_law_1186 at hm
  obtain ⟨k390, i391, hm⟩ := ckO_e hm
  obtain ⟨v392, ρ393, h394, hm⟩ := cll_e hm
  refine zx_callVH (σ := σ) C [.int (s1), .int (s2)] tC_11 k390 i391 Y_X12_info W_9_16 W_9_17 W_9_18 (c_X12_info h394) (by decide) (by decide) rfl (Nat.le_of_ble_eq_true rfl) dL_law_1186 rfl ?_
  refine zx_istore C [(6, .int (v392)), (0, .ref (b)), (1, .ref (x1)), (2, .ref (x2)), (3, .ref (x3)), (4, .int (x4)), (5, .int (x5))] dL_law_1189 (by decide) rfl ?_
  refine zx_aload_n C dL_law_1191 3 rfl ?_
  obtain ⟨k395, i396, hm⟩ := ckO_e hm
  obtain ⟨v397, ρ398, h399, hm⟩ := cll_e hm
  refine zx_callV (σ := ρ393) C [] tC_11 k395 i396 Y_X12_thrown W_6_190 W_6_191 W_6_192 (c_X12_thrown h399) (by decide) (by decide) rfl (Nat.le_of_ble_eq_true rfl) dL_law_1192 rfl ?_
  refine zx_iload C dL_law_1195 6 rfl ?_
  refine zx_icmp_eq C 1202 dL_law_1197 (by decide) (fun c400 => ?_) (fun c400 => ?_)
  · replace hm := ip_e hm c400
    refine zx_iload C dL_law_1202 6 rfl ?_
    refine zx_if_ne C 1219 dL_law_1204 (by decide) (fun c401 => ?_) (fun c401 => ?_)
    · replace hm := in_e hm c401
      exact zx_lv [1, 2, 3, 4, 5] [(0, .ref (b)), (1, .ref (x1)), (2, .ref (x2)), (3, .ref (x3)), (4, .int (x4))] rfl (j_L_law_1219 C htab hin hX hbb hrc23   hm)
    · replace hm := ip_e hm c401
      refine zx_aload_n C dL_law_1207 4 rfl ?_
      refine zx_iconst (v := 0) C dL_law_1208 (by decide) ?_
      obtain ⟨n404, k402, i403, hm⟩ := ckR_e hm
      obtain ⟨h405, hm⟩ := ckI_e hm
      refine zx_lald C k402 i403 h405 dL_law_1209 ?_
      refine zx_iload C dL_law_1210 0 rfl ?_
      refine zx_i2l C dL_law_1212 ?_
      refine zx_lcmp C dL_law_1213 ?_
      refine zx_if_eq C 1219 dL_law_1214 (by decide) (fun c406 => ?_) (fun c406 => ?_)
      · replace hm := ip_e hm c406
        exact zx_lv [1, 2, 3, 4, 5] [(0, .ref (b)), (1, .ref (x1)), (2, .ref (x2)), (3, .ref (x3)), (4, .int (x4))] rfl (j_L_law_1219 C htab hin hX hbb hrc23   hm)
      · replace hm := in_e hm c406
        refine zx_iconst (v := 0) C dL_law_1217 (by decide) ?_
        obtain ⟨rfl, rfl⟩ := ret_e hm
        exact zx_zret C rfl (by decide) rfl rfl dL_law_1218
  · replace hm := in_e hm c400
    refine zx_iconst (v := 0) C dL_law_1200 (by decide) ?_
    obtain ⟨rfl, rfl⟩ := ret_e hm
    exact zx_zret C rfl (by decide) rfl rfl dL_law_1201
set_option maxRecDepth 100000 in
set_option maxHeartbeats 1000000 in
theorem j_L_law_1159 {p : Program} {l : Launch} {e : Env} {s : State} {m : MethodId} {args : Array Value} {below : List Frame} {meth : Method} {c : Code} {D : va_G} {aC : Nat → ClassId} {b0 fu : Nat} {σ0 τ : tM} {v : Int32} {b L : Nat} {xs : Nat → Int32} {rc23 : Nat → Nat → Nat → Int32 → tM → Option ((Int32) × tM)} (C : tCx p l s m args meth c yL_law.cls cL_law 8 (some .boolean) D aC b0 σ0) (htab : True) (hin : True) (hX : va_X b L xs s s.heap) (hbb : b < b0) (hrc23 : ∀ (x1 : Nat) (x2 : Nat) (x3 : Nat) (x4 : Int32) (ρ : tM), rc23 x1 x2 x3 x4 ρ = some (v, τ) → tX p l e s m args below meth c 8 14 271 D aC b0 σ0 (.inl (some (.int v))) τ 23 [(0, .ref (b)), (1, .ref (x1)), (2, .ref (x2)), (3, .ref (x3)), (4, .int (x4))] [] ρ) {x1 : Nat} {x2 : Nat} {x3 : Nat} {x4 : Int32} {s0 : Nat} {s1 : Int32} {s2 : Int32} {σ : tM} (hm : J_L_law_1159 b0 fu L xs rc23 x1 x2 x3 x4 s0 s1 s2 σ = some (v, τ)) : tX p l e s m args below meth c 8 14 271 D aC b0 σ0 (.inl (some (.int v))) τ 1159 [(0, .ref (b)), (1, .ref (x1)), (2, .ref (x2)), (3, .ref (x3)), (4, .int (x4))] [.int (s2), .int (s1), .ref (s0)] σ := by
  unfold J_L_law_1159 at hm
  refine zx_aload_n C dL_law_1159 3 rfl ?_
  obtain ⟨v384, ρ385, h386, hm⟩ := cll_e hm
  refine zx_callSH (σ := σ) C [.ref (s0), .int (s1), .int (s2), .ref (x3)] Y_L_info W_5_209 W_5_210 (c_L_info h386) (by decide) (by decide) rfl (Nat.le_of_ble_eq_true rfl) dL_law_1160 rfl ?_
  refine zx_istore C [(5, .int (v384)), (0, .ref (b)), (1, .ref (x1)), (2, .ref (x2)), (3, .ref (x3)), (4, .int (x4))] dL_law_1163 (by decide) rfl ?_
  refine zx_aload_n C dL_law_1165 3 rfl ?_
  refine zx_aload_n C dL_law_1166 1 rfl ?_
  refine zx_iload C dL_law_1167 5 rfl ?_
  refine zx_iconst (v := 1) C dL_law_1169 (by decide) ?_
  refine zx_iadd C dL_law_1170 ?_
  obtain ⟨h387, hm⟩ := ckI_e hm
  refine zx_sld C hX hbb h387 dL_law_1171 ?_
  refine zx_aload_n C dL_law_1172 1 rfl ?_
  refine zx_iload C dL_law_1173 5 rfl ?_
  refine zx_iconst (v := 2) C dL_law_1175 (by decide) ?_
  refine zx_iadd C dL_law_1176 ?_
  obtain ⟨h388, hm⟩ := ckI_e hm
  refine zx_sld C hX hbb h388 dL_law_1177 ?_
  refine zx_if_eq C 1185 dL_law_1178 (by decide) (fun c389 => ?_) (fun c389 => ?_)
  · replace hm := ip_e hm c389
    refine zx_iconst (v := 0) C dL_law_1185 (by decide) ?_
    exact zx_lv [1, 2, 3, 4, 5, 0] [(0, .ref (b)), (1, .ref (x1)), (2, .ref (x2)), (3, .ref (x3)), (4, .int (x4)), (5, .int (v384))] rfl (j_L_law_1186 C htab hin hX hbb hrc23   hm)
  · replace hm := in_e hm c389
    refine zx_iconst (v := 1) C dL_law_1181 (by decide) ?_
    refine zx_goto C 1186 dL_law_1182 (by decide) ?_
    exact zx_lv [1, 2, 3, 4, 5, 0] [(0, .ref (b)), (1, .ref (x1)), (2, .ref (x2)), (3, .ref (x3)), (4, .int (x4)), (5, .int (v384))] rfl (j_L_law_1186 C htab hin hX hbb hrc23   hm)
set_option maxRecDepth 100000 in
set_option maxHeartbeats 1000000 in
theorem j_L_law_1287 {p : Program} {l : Launch} {e : Env} {s : State} {m : MethodId} {args : Array Value} {below : List Frame} {meth : Method} {c : Code} {D : va_G} {aC : Nat → ClassId} {b0 fu : Nat} {σ0 τ : tM} {v : Int32} {b L : Nat} {xs : Nat → Int32} {rc23 : Nat → Nat → Nat → Int32 → tM → Option ((Int32) × tM)} (C : tCx p l s m args meth c yL_law.cls cL_law 8 (some .boolean) D aC b0 σ0) (htab : True) (hin : True) (hX : va_X b L xs s s.heap) (hbb : b < b0) (hrc23 : ∀ (x1 : Nat) (x2 : Nat) (x3 : Nat) (x4 : Int32) (ρ : tM), rc23 x1 x2 x3 x4 ρ = some (v, τ) → tX p l e s m args below meth c 8 14 271 D aC b0 σ0 (.inl (some (.int v))) τ 23 [(0, .ref (b)), (1, .ref (x1)), (2, .ref (x2)), (3, .ref (x3)), (4, .int (x4))] [] ρ) {x1 : Nat} {x2 : Nat} {x3 : Nat} {x4 : Int32} {σ : tM} (hm : J_L_law_1287 b0 fu L xs rc23 x1 x2 x3 x4 σ = some (v, τ)) : tX p l e s m args below meth c 8 14 271 D aC b0 σ0 (.inl (some (.int v))) τ 1287 [(0, .ref (b)), (1, .ref (x1)), (2, .ref (x2)), (3, .ref (x3)), (4, .int (x4))] [] σ := by
  unfold J_L_law_1287 at hm
  refine zx_goto C 2051 dL_law_1287 (by decide) ?_
  exact zx_lv [0, 1, 2, 3, 4] [(0, .ref (b)), (1, .ref (x1)), (2, .ref (x2)), (3, .ref (x3)), (4, .int (x4))] rfl (j_L_law_2051 C htab hin hX hbb hrc23   hm)
set_option maxRecDepth 100000 in
set_option maxHeartbeats 1000000 in
theorem j_L_law_1355 {p : Program} {l : Launch} {e : Env} {s : State} {m : MethodId} {args : Array Value} {below : List Frame} {meth : Method} {c : Code} {D : va_G} {aC : Nat → ClassId} {b0 fu : Nat} {σ0 τ : tM} {v : Int32} {b L : Nat} {xs : Nat → Int32} {rc23 : Nat → Nat → Nat → Int32 → tM → Option ((Int32) × tM)} (C : tCx p l s m args meth c yL_law.cls cL_law 8 (some .boolean) D aC b0 σ0) (htab : True) (hin : True) (hX : va_X b L xs s s.heap) (hbb : b < b0) (hrc23 : ∀ (x1 : Nat) (x2 : Nat) (x3 : Nat) (x4 : Int32) (ρ : tM), rc23 x1 x2 x3 x4 ρ = some (v, τ) → tX p l e s m args below meth c 8 14 271 D aC b0 σ0 (.inl (some (.int v))) τ 23 [(0, .ref (b)), (1, .ref (x1)), (2, .ref (x2)), (3, .ref (x3)), (4, .int (x4))] [] ρ) {x1 : Nat} {x2 : Nat} {x3 : Nat} {x4 : Int32} {σ : tM} (hm : J_L_law_1355 b0 fu L xs rc23 x1 x2 x3 x4 σ = some (v, τ)) : tX p l e s m args below meth c 8 14 271 D aC b0 σ0 (.inl (some (.int v))) τ 1355 [(0, .ref (b)), (1, .ref (x1)), (2, .ref (x2)), (3, .ref (x3)), (4, .int (x4))] [] σ := by
  unfold J_L_law_1355 at hm
  refine zx_goto C 2051 dL_law_1355 (by decide) ?_
  exact zx_lv [0, 1, 2, 3, 4] [(0, .ref (b)), (1, .ref (x1)), (2, .ref (x2)), (3, .ref (x3)), (4, .int (x4))] rfl (j_L_law_2051 C htab hin hX hbb hrc23   hm)
set_option maxRecDepth 100000 in
set_option maxHeartbeats 1000000 in
theorem j_L_law_1411 {p : Program} {l : Launch} {e : Env} {s : State} {m : MethodId} {args : Array Value} {below : List Frame} {meth : Method} {c : Code} {D : va_G} {aC : Nat → ClassId} {b0 fu : Nat} {σ0 τ : tM} {v : Int32} {b L : Nat} {xs : Nat → Int32} {rc23 : Nat → Nat → Nat → Int32 → tM → Option ((Int32) × tM)} (C : tCx p l s m args meth c yL_law.cls cL_law 8 (some .boolean) D aC b0 σ0) (htab : True) (hin : True) (hX : va_X b L xs s s.heap) (hbb : b < b0) (hrc23 : ∀ (x1 : Nat) (x2 : Nat) (x3 : Nat) (x4 : Int32) (ρ : tM), rc23 x1 x2 x3 x4 ρ = some (v, τ) → tX p l e s m args below meth c 8 14 271 D aC b0 σ0 (.inl (some (.int v))) τ 23 [(0, .ref (b)), (1, .ref (x1)), (2, .ref (x2)), (3, .ref (x3)), (4, .int (x4))] [] ρ) {x1 : Nat} {x2 : Nat} {x3 : Nat} {x4 : Int32} {σ : tM} (hm : J_L_law_1411 b0 fu L xs rc23 x1 x2 x3 x4 σ = some (v, τ)) : tX p l e s m args below meth c 8 14 271 D aC b0 σ0 (.inl (some (.int v))) τ 1411 [(0, .ref (b)), (1, .ref (x1)), (2, .ref (x2)), (3, .ref (x3)), (4, .int (x4))] [] σ := by
  unfold J_L_law_1411 at hm
  refine zx_goto C 2051 dL_law_1411 (by decide) ?_
  exact zx_lv [0, 1, 2, 3, 4] [(0, .ref (b)), (1, .ref (x1)), (2, .ref (x2)), (3, .ref (x3)), (4, .int (x4))] rfl (j_L_law_2051 C htab hin hX hbb hrc23   hm)
set_option maxRecDepth 100000 in
set_option maxHeartbeats 1000000 in
theorem j_L_law_1479 {p : Program} {l : Launch} {e : Env} {s : State} {m : MethodId} {args : Array Value} {below : List Frame} {meth : Method} {c : Code} {D : va_G} {aC : Nat → ClassId} {b0 fu : Nat} {σ0 τ : tM} {v : Int32} {b L : Nat} {xs : Nat → Int32} {rc23 : Nat → Nat → Nat → Int32 → tM → Option ((Int32) × tM)} (C : tCx p l s m args meth c yL_law.cls cL_law 8 (some .boolean) D aC b0 σ0) (htab : True) (hin : True) (hX : va_X b L xs s s.heap) (hbb : b < b0) (hrc23 : ∀ (x1 : Nat) (x2 : Nat) (x3 : Nat) (x4 : Int32) (ρ : tM), rc23 x1 x2 x3 x4 ρ = some (v, τ) → tX p l e s m args below meth c 8 14 271 D aC b0 σ0 (.inl (some (.int v))) τ 23 [(0, .ref (b)), (1, .ref (x1)), (2, .ref (x2)), (3, .ref (x3)), (4, .int (x4))] [] ρ) {x1 : Nat} {x2 : Nat} {x3 : Nat} {x4 : Int32} {σ : tM} (hm : J_L_law_1479 b0 fu L xs rc23 x1 x2 x3 x4 σ = some (v, τ)) : tX p l e s m args below meth c 8 14 271 D aC b0 σ0 (.inl (some (.int v))) τ 1479 [(0, .ref (b)), (1, .ref (x1)), (2, .ref (x2)), (3, .ref (x3)), (4, .int (x4))] [] σ := by
  unfold J_L_law_1479 at hm
  refine zx_goto C 2051 dL_law_1479 (by decide) ?_
  exact zx_lv [0, 1, 2, 3, 4] [(0, .ref (b)), (1, .ref (x1)), (2, .ref (x2)), (3, .ref (x3)), (4, .int (x4))] rfl (j_L_law_2051 C htab hin hX hbb hrc23   hm)
set_option maxRecDepth 100000 in
set_option maxHeartbeats 1000000 in
theorem j_L_law_1535 {p : Program} {l : Launch} {e : Env} {s : State} {m : MethodId} {args : Array Value} {below : List Frame} {meth : Method} {c : Code} {D : va_G} {aC : Nat → ClassId} {b0 fu : Nat} {σ0 τ : tM} {v : Int32} {b L : Nat} {xs : Nat → Int32} {rc23 : Nat → Nat → Nat → Int32 → tM → Option ((Int32) × tM)} (C : tCx p l s m args meth c yL_law.cls cL_law 8 (some .boolean) D aC b0 σ0) (htab : True) (hin : True) (hX : va_X b L xs s s.heap) (hbb : b < b0) (hrc23 : ∀ (x1 : Nat) (x2 : Nat) (x3 : Nat) (x4 : Int32) (ρ : tM), rc23 x1 x2 x3 x4 ρ = some (v, τ) → tX p l e s m args below meth c 8 14 271 D aC b0 σ0 (.inl (some (.int v))) τ 23 [(0, .ref (b)), (1, .ref (x1)), (2, .ref (x2)), (3, .ref (x3)), (4, .int (x4))] [] ρ) {x1 : Nat} {x2 : Nat} {x3 : Nat} {x4 : Int32} {σ : tM} (hm : J_L_law_1535 b0 fu L xs rc23 x1 x2 x3 x4 σ = some (v, τ)) : tX p l e s m args below meth c 8 14 271 D aC b0 σ0 (.inl (some (.int v))) τ 1535 [(0, .ref (b)), (1, .ref (x1)), (2, .ref (x2)), (3, .ref (x3)), (4, .int (x4))] [] σ := by
  unfold J_L_law_1535 at hm
  refine zx_goto C 2051 dL_law_1535 (by decide) ?_
  exact zx_lv [0, 1, 2, 3, 4] [(0, .ref (b)), (1, .ref (x1)), (2, .ref (x2)), (3, .ref (x3)), (4, .int (x4))] rfl (j_L_law_2051 C htab hin hX hbb hrc23   hm)
set_option maxRecDepth 100000 in
set_option maxHeartbeats 1000000 in
theorem j_L_law_1591 {p : Program} {l : Launch} {e : Env} {s : State} {m : MethodId} {args : Array Value} {below : List Frame} {meth : Method} {c : Code} {D : va_G} {aC : Nat → ClassId} {b0 fu : Nat} {σ0 τ : tM} {v : Int32} {b L : Nat} {xs : Nat → Int32} {rc23 : Nat → Nat → Nat → Int32 → tM → Option ((Int32) × tM)} (C : tCx p l s m args meth c yL_law.cls cL_law 8 (some .boolean) D aC b0 σ0) (htab : True) (hin : True) (hX : va_X b L xs s s.heap) (hbb : b < b0) (hrc23 : ∀ (x1 : Nat) (x2 : Nat) (x3 : Nat) (x4 : Int32) (ρ : tM), rc23 x1 x2 x3 x4 ρ = some (v, τ) → tX p l e s m args below meth c 8 14 271 D aC b0 σ0 (.inl (some (.int v))) τ 23 [(0, .ref (b)), (1, .ref (x1)), (2, .ref (x2)), (3, .ref (x3)), (4, .int (x4))] [] ρ) {x1 : Nat} {x2 : Nat} {x3 : Nat} {x4 : Int32} {σ : tM} (hm : J_L_law_1591 b0 fu L xs rc23 x1 x2 x3 x4 σ = some (v, τ)) : tX p l e s m args below meth c 8 14 271 D aC b0 σ0 (.inl (some (.int v))) τ 1591 [(0, .ref (b)), (1, .ref (x1)), (2, .ref (x2)), (3, .ref (x3)), (4, .int (x4))] [] σ := by
  unfold J_L_law_1591 at hm
  refine zx_goto C 2051 dL_law_1591 (by decide) ?_
  exact zx_lv [0, 1, 2, 3, 4] [(0, .ref (b)), (1, .ref (x1)), (2, .ref (x2)), (3, .ref (x3)), (4, .int (x4))] rfl (j_L_law_2051 C htab hin hX hbb hrc23   hm)
set_option maxRecDepth 100000 in
set_option maxHeartbeats 1000000 in
theorem j_L_law_1635 {p : Program} {l : Launch} {e : Env} {s : State} {m : MethodId} {args : Array Value} {below : List Frame} {meth : Method} {c : Code} {D : va_G} {aC : Nat → ClassId} {b0 fu : Nat} {σ0 τ : tM} {v : Int32} {b L : Nat} {xs : Nat → Int32} {rc23 : Nat → Nat → Nat → Int32 → tM → Option ((Int32) × tM)} (C : tCx p l s m args meth c yL_law.cls cL_law 8 (some .boolean) D aC b0 σ0) (htab : True) (hin : True) (hX : va_X b L xs s s.heap) (hbb : b < b0) (hrc23 : ∀ (x1 : Nat) (x2 : Nat) (x3 : Nat) (x4 : Int32) (ρ : tM), rc23 x1 x2 x3 x4 ρ = some (v, τ) → tX p l e s m args below meth c 8 14 271 D aC b0 σ0 (.inl (some (.int v))) τ 23 [(0, .ref (b)), (1, .ref (x1)), (2, .ref (x2)), (3, .ref (x3)), (4, .int (x4))] [] ρ) {x1 : Nat} {x2 : Nat} {x3 : Nat} {x4 : Int32} {σ : tM} (hm : J_L_law_1635 b0 fu L xs rc23 x1 x2 x3 x4 σ = some (v, τ)) : tX p l e s m args below meth c 8 14 271 D aC b0 σ0 (.inl (some (.int v))) τ 1635 [(0, .ref (b)), (1, .ref (x1)), (2, .ref (x2)), (3, .ref (x3)), (4, .int (x4))] [] σ := by
  unfold J_L_law_1635 at hm
  refine zx_goto C 2051 dL_law_1635 (by decide) ?_
  exact zx_lv [0, 1, 2, 3, 4] [(0, .ref (b)), (1, .ref (x1)), (2, .ref (x2)), (3, .ref (x3)), (4, .int (x4))] rfl (j_L_law_2051 C htab hin hX hbb hrc23   hm)
set_option maxRecDepth 100000 in
set_option maxHeartbeats 1000000 in
theorem j_L_law_1679 {p : Program} {l : Launch} {e : Env} {s : State} {m : MethodId} {args : Array Value} {below : List Frame} {meth : Method} {c : Code} {D : va_G} {aC : Nat → ClassId} {b0 fu : Nat} {σ0 τ : tM} {v : Int32} {b L : Nat} {xs : Nat → Int32} {rc23 : Nat → Nat → Nat → Int32 → tM → Option ((Int32) × tM)} (C : tCx p l s m args meth c yL_law.cls cL_law 8 (some .boolean) D aC b0 σ0) (htab : True) (hin : True) (hX : va_X b L xs s s.heap) (hbb : b < b0) (hrc23 : ∀ (x1 : Nat) (x2 : Nat) (x3 : Nat) (x4 : Int32) (ρ : tM), rc23 x1 x2 x3 x4 ρ = some (v, τ) → tX p l e s m args below meth c 8 14 271 D aC b0 σ0 (.inl (some (.int v))) τ 23 [(0, .ref (b)), (1, .ref (x1)), (2, .ref (x2)), (3, .ref (x3)), (4, .int (x4))] [] ρ) {x1 : Nat} {x2 : Nat} {x3 : Nat} {x4 : Int32} {σ : tM} (hm : J_L_law_1679 b0 fu L xs rc23 x1 x2 x3 x4 σ = some (v, τ)) : tX p l e s m args below meth c 8 14 271 D aC b0 σ0 (.inl (some (.int v))) τ 1679 [(0, .ref (b)), (1, .ref (x1)), (2, .ref (x2)), (3, .ref (x3)), (4, .int (x4))] [] σ := by
  unfold J_L_law_1679 at hm
  refine zx_goto C 2051 dL_law_1679 (by decide) ?_
  exact zx_lv [0, 1, 2, 3, 4] [(0, .ref (b)), (1, .ref (x1)), (2, .ref (x2)), (3, .ref (x3)), (4, .int (x4))] rfl (j_L_law_2051 C htab hin hX hbb hrc23   hm)
set_option maxRecDepth 100000 in
set_option maxHeartbeats 1000000 in
theorem j_L_law_1735 {p : Program} {l : Launch} {e : Env} {s : State} {m : MethodId} {args : Array Value} {below : List Frame} {meth : Method} {c : Code} {D : va_G} {aC : Nat → ClassId} {b0 fu : Nat} {σ0 τ : tM} {v : Int32} {b L : Nat} {xs : Nat → Int32} {rc23 : Nat → Nat → Nat → Int32 → tM → Option ((Int32) × tM)} (C : tCx p l s m args meth c yL_law.cls cL_law 8 (some .boolean) D aC b0 σ0) (htab : True) (hin : True) (hX : va_X b L xs s s.heap) (hbb : b < b0) (hrc23 : ∀ (x1 : Nat) (x2 : Nat) (x3 : Nat) (x4 : Int32) (ρ : tM), rc23 x1 x2 x3 x4 ρ = some (v, τ) → tX p l e s m args below meth c 8 14 271 D aC b0 σ0 (.inl (some (.int v))) τ 23 [(0, .ref (b)), (1, .ref (x1)), (2, .ref (x2)), (3, .ref (x3)), (4, .int (x4))] [] ρ) {x1 : Nat} {x2 : Nat} {x3 : Nat} {x4 : Int32} {σ : tM} (hm : J_L_law_1735 b0 fu L xs rc23 x1 x2 x3 x4 σ = some (v, τ)) : tX p l e s m args below meth c 8 14 271 D aC b0 σ0 (.inl (some (.int v))) τ 1735 [(0, .ref (b)), (1, .ref (x1)), (2, .ref (x2)), (3, .ref (x3)), (4, .int (x4))] [] σ := by
  unfold J_L_law_1735 at hm
  refine zx_goto C 2051 dL_law_1735 (by decide) ?_
  exact zx_lv [0, 1, 2, 3, 4] [(0, .ref (b)), (1, .ref (x1)), (2, .ref (x2)), (3, .ref (x3)), (4, .int (x4))] rfl (j_L_law_2051 C htab hin hX hbb hrc23   hm)
set_option maxRecDepth 100000 in
set_option maxHeartbeats 1000000 in
theorem j_L_law_1791 {p : Program} {l : Launch} {e : Env} {s : State} {m : MethodId} {args : Array Value} {below : List Frame} {meth : Method} {c : Code} {D : va_G} {aC : Nat → ClassId} {b0 fu : Nat} {σ0 τ : tM} {v : Int32} {b L : Nat} {xs : Nat → Int32} {rc23 : Nat → Nat → Nat → Int32 → tM → Option ((Int32) × tM)} (C : tCx p l s m args meth c yL_law.cls cL_law 8 (some .boolean) D aC b0 σ0) (htab : True) (hin : True) (hX : va_X b L xs s s.heap) (hbb : b < b0) (hrc23 : ∀ (x1 : Nat) (x2 : Nat) (x3 : Nat) (x4 : Int32) (ρ : tM), rc23 x1 x2 x3 x4 ρ = some (v, τ) → tX p l e s m args below meth c 8 14 271 D aC b0 σ0 (.inl (some (.int v))) τ 23 [(0, .ref (b)), (1, .ref (x1)), (2, .ref (x2)), (3, .ref (x3)), (4, .int (x4))] [] ρ) {x1 : Nat} {x2 : Nat} {x3 : Nat} {x4 : Int32} {σ : tM} (hm : J_L_law_1791 b0 fu L xs rc23 x1 x2 x3 x4 σ = some (v, τ)) : tX p l e s m args below meth c 8 14 271 D aC b0 σ0 (.inl (some (.int v))) τ 1791 [(0, .ref (b)), (1, .ref (x1)), (2, .ref (x2)), (3, .ref (x3)), (4, .int (x4))] [] σ := by
  unfold J_L_law_1791 at hm
  refine zx_goto C 2051 dL_law_1791 (by decide) ?_
  exact zx_lv [0, 1, 2, 3, 4] [(0, .ref (b)), (1, .ref (x1)), (2, .ref (x2)), (3, .ref (x3)), (4, .int (x4))] rfl (j_L_law_2051 C htab hin hX hbb hrc23   hm)
set_option maxRecDepth 100000 in
set_option maxHeartbeats 1000000 in
theorem j_L_law_1860 {p : Program} {l : Launch} {e : Env} {s : State} {m : MethodId} {args : Array Value} {below : List Frame} {meth : Method} {c : Code} {D : va_G} {aC : Nat → ClassId} {b0 fu : Nat} {σ0 τ : tM} {v : Int32} {b L : Nat} {xs : Nat → Int32} {rc23 : Nat → Nat → Nat → Int32 → tM → Option ((Int32) × tM)} (C : tCx p l s m args meth c yL_law.cls cL_law 8 (some .boolean) D aC b0 σ0) (htab : True) (hin : True) (hX : va_X b L xs s s.heap) (hbb : b < b0) (hrc23 : ∀ (x1 : Nat) (x2 : Nat) (x3 : Nat) (x4 : Int32) (ρ : tM), rc23 x1 x2 x3 x4 ρ = some (v, τ) → tX p l e s m args below meth c 8 14 271 D aC b0 σ0 (.inl (some (.int v))) τ 23 [(0, .ref (b)), (1, .ref (x1)), (2, .ref (x2)), (3, .ref (x3)), (4, .int (x4))] [] ρ) {x1 : Nat} {x2 : Nat} {x3 : Nat} {x4 : Int32} {σ : tM} (hm : J_L_law_1860 b0 fu L xs rc23 x1 x2 x3 x4 σ = some (v, τ)) : tX p l e s m args below meth c 8 14 271 D aC b0 σ0 (.inl (some (.int v))) τ 1860 [(0, .ref (b)), (1, .ref (x1)), (2, .ref (x2)), (3, .ref (x3)), (4, .int (x4))] [] σ := by
  unfold J_L_law_1860 at hm
  refine zx_goto C 2051 dL_law_1860 (by decide) ?_
  exact zx_lv [0, 1, 2, 3, 4] [(0, .ref (b)), (1, .ref (x1)), (2, .ref (x2)), (3, .ref (x3)), (4, .int (x4))] rfl (j_L_law_2051 C htab hin hX hbb hrc23   hm)
set_option maxRecDepth 100000 in
set_option maxHeartbeats 1000000 in
theorem j_L_law_1998 {p : Program} {l : Launch} {e : Env} {s : State} {m : MethodId} {args : Array Value} {below : List Frame} {meth : Method} {c : Code} {D : va_G} {aC : Nat → ClassId} {b0 fu : Nat} {σ0 τ : tM} {v : Int32} {b L : Nat} {xs : Nat → Int32} {rc23 : Nat → Nat → Nat → Int32 → tM → Option ((Int32) × tM)} (C : tCx p l s m args meth c yL_law.cls cL_law 8 (some .boolean) D aC b0 σ0) (htab : True) (hin : True) (hX : va_X b L xs s s.heap) (hbb : b < b0) (hrc23 : ∀ (x1 : Nat) (x2 : Nat) (x3 : Nat) (x4 : Int32) (ρ : tM), rc23 x1 x2 x3 x4 ρ = some (v, τ) → tX p l e s m args below meth c 8 14 271 D aC b0 σ0 (.inl (some (.int v))) τ 23 [(0, .ref (b)), (1, .ref (x1)), (2, .ref (x2)), (3, .ref (x3)), (4, .int (x4))] [] ρ) {x1 : Nat} {x2 : Nat} {x3 : Nat} {x4 : Int32} {σ : tM} (hm : J_L_law_1998 b0 fu L xs rc23 x1 x2 x3 x4 σ = some (v, τ)) : tX p l e s m args below meth c 8 14 271 D aC b0 σ0 (.inl (some (.int v))) τ 1998 [(0, .ref (b)), (1, .ref (x1)), (2, .ref (x2)), (3, .ref (x3)), (4, .int (x4))] [] σ := by
  unfold J_L_law_1998 at hm
  refine zx_goto C 2051 dL_law_1998 (by decide) ?_
  exact zx_lv [0, 1, 2, 3, 4] [(0, .ref (b)), (1, .ref (x1)), (2, .ref (x2)), (3, .ref (x3)), (4, .int (x4))] rfl (j_L_law_2051 C htab hin hX hbb hrc23   hm)
set_option maxRecDepth 100000 in
set_option maxHeartbeats 1000000 in
theorem l_L_law_23 {p : Program} {l : Launch} {e : Env} {s : State} {m : MethodId} {args : Array Value} {below : List Frame} {meth : Method} {c : Code} {D : va_G} {aC : Nat → ClassId} {b0 fu : Nat} {σ0 τ : tM} {v : Int32} {b L : Nat} {xs : Nat → Int32}  (C : tCx p l s m args meth c yL_law.cls cL_law 8 (some .boolean) D aC b0 σ0) (htab : True) (hin : True) (hX : va_X b L xs s s.heap) (hbb : b < b0)  : ∀ (n : Nat) (x1 : Nat) (x2 : Nat) (x3 : Nat) (x4 : Int32) (σ : tM), L_L_law_23 b0 fu L xs  n x1 x2 x3 x4 σ = some (v, τ) → tX p l e s m args below meth c 8 14 271 D aC b0 σ0 (.inl (some (.int v))) τ 23 [(0, .ref (b)), (1, .ref (x1)), (2, .ref (x2)), (3, .ref (x3)), (4, .int (x4))] [] σ := by
  intro n
  induction n with
  | zero => intro x1 x2 x3 x4 σ hm; unfold L_L_law_23 at hm; cases hm
  | succ n ih =>
    intro x1 x2 x3 x4 σ hm
    unfold L_L_law_23 at hm
    obtain ⟨rc23, hrc⟩ : ∃ z, z = L_L_law_23 b0 fu L xs  n := ⟨_, rfl⟩
    replace hm := ltb_e hm hrc
    rw [← hrc] at ih
    have hrc23 := ih
    clear ih hrc
    refine zx_iload C dL_law_23 4 rfl ?_
    refine zx_aload_n C dL_law_25 0 rfl ?_
    refine zx_slen C hX hbb dL_law_26 ?_
    refine zx_bipush (v := 6) C dL_law_27 (by decide) ?_
    refine zx_isub C dL_law_29 ?_
    refine zx_icmp_gt C 2057 dL_law_30 (by decide) (fun c16 => ?_) (fun c16 => ?_)
    · replace hm := ip_e hm c16
      refine zx_iconst (v := 1) C dL_law_2057 (by decide) ?_
      obtain ⟨rfl, rfl⟩ := ret_e hm
      exact zx_zret C rfl (by decide) rfl rfl dL_law_2058
    · replace hm := in_e hm c16
      refine zx_aload_n C dL_law_33 0 rfl ?_
      refine zx_iload C dL_law_34 4 rfl ?_
      obtain ⟨h17, hm⟩ := ckI_e hm
      refine zx_sld C hX hbb h17 dL_law_36 ?_
      refine zx_bipush (v := 63) C dL_law_37 (by decide) ?_
      refine zx_iand C dL_law_39 ?_
      refine zx_topi (fun y18 hy18 => ?_)
      replace hm := ltb_e hm hy18
      rcases Classical.em ((y18) = (0)) with c40_0 | c40_0
      · replace hm := ip_e hm c40_0
        refine zx_tabIn (off := 156) C 196 dL_law_40 (by rw [c40_0]; decide) (by rw [c40_0]; decide) (by rw [c40_0]; decide) (by decide) ?_
        refine zx_aload_n C dL_law_196 1 rfl ?_
        refine zx_aload_n C dL_law_197 0 rfl ?_
        refine zx_iload C dL_law_198 4 rfl ?_
        refine zx_iconst (v := 1) C dL_law_200 (by decide) ?_
        refine zx_iadd C dL_law_201 ?_
        obtain ⟨h19, hm⟩ := ckI_e hm
        refine zx_sld C hX hbb h19 dL_law_202 ?_
        refine zx_aload_n C dL_law_203 0 rfl ?_
        refine zx_iload C dL_law_204 4 rfl ?_
        refine zx_iconst (v := 2) C dL_law_206 (by decide) ?_
        refine zx_iadd C dL_law_207 ?_
        obtain ⟨h20, hm⟩ := ckI_e hm
        refine zx_sld C hX hbb h20 dL_law_208 ?_
        obtain ⟨k21, i22, hm⟩ := ckO_e hm
        obtain ⟨v23, ρ24, h25, hm⟩ := cll_e hm
        refine zx_callV (σ := σ) C [.int (xs (((x4) + (1)).toNatClampNeg)), .int (xs (((x4) + (2)).toNatClampNeg))] tC_10 k21 i22 Y_X10_format W_3_4 W_3_5 W_3_6 (c_X10_format h25) (by decide) (by decide) rfl (Nat.le_of_ble_eq_true rfl) dL_law_209 rfl ?_
        refine zx_aload_n C dL_law_212 2 rfl ?_
        refine zx_aload_n C dL_law_213 0 rfl ?_
        refine zx_iload C dL_law_214 4 rfl ?_
        refine zx_iconst (v := 1) C dL_law_216 (by decide) ?_
        refine zx_iadd C dL_law_217 ?_
        obtain ⟨h26, hm⟩ := ckI_e hm
        refine zx_sld C hX hbb h26 dL_law_218 ?_
        refine zx_aload_n C dL_law_219 0 rfl ?_
        refine zx_iload C dL_law_220 4 rfl ?_
        refine zx_iconst (v := 2) C dL_law_222 (by decide) ?_
        refine zx_iadd C dL_law_223 ?_
        obtain ⟨h27, hm⟩ := ckI_e hm
        refine zx_sld C hX hbb h27 dL_law_224 ?_
        obtain ⟨k28, i29, hm⟩ := ckO_e hm
        obtain ⟨v30, ρ31, h32, hm⟩ := cll_e hm
        refine zx_callV (σ := ρ24) C [.int (xs (((x4) + (1)).toNatClampNeg)), .int (xs (((x4) + (2)).toNatClampNeg))] tC_11 k28 i29 Y_X12_format W_7_160 W_6_206 W_6_207 (c_X12_format h32) (by decide) (by decide) rfl (Nat.le_of_ble_eq_true rfl) dL_law_225 rfl ?_
        refine zx_icmp_eq C 2051 dL_law_228 (by decide) (fun c33 => ?_) (fun c33 => ?_)
        · replace hm := ip_e hm c33
          exact zx_lv [0, 1, 2, 3, 4] [(0, .ref (b)), (1, .ref (x1)), (2, .ref (x2)), (3, .ref (x3)), (4, .int (x4))] rfl (j_L_law_2051 C htab hin hX hbb hrc23   hm)
        · replace hm := in_e hm c33
          refine zx_iconst (v := 0) C dL_law_231 (by decide) ?_
          obtain ⟨rfl, rfl⟩ := ret_e hm
          exact zx_zret C rfl (by decide) rfl rfl dL_law_232
      · replace hm := in_e hm c40_0
        rcases Classical.em ((y18) = (1)) with c40_1 | c40_1
        · replace hm := ip_e hm c40_1
          refine zx_tabIn (off := 193) C 233 dL_law_40 (by rw [c40_1]; decide) (by rw [c40_1]; decide) (by rw [c40_1]; decide) (by decide) ?_
          refine zx_aload_n C dL_law_233 1 rfl ?_
          refine zx_aload_n C dL_law_234 0 rfl ?_
          refine zx_iload C dL_law_235 4 rfl ?_
          refine zx_iconst (v := 1) C dL_law_237 (by decide) ?_
          refine zx_iadd C dL_law_238 ?_
          obtain ⟨h35, hm⟩ := ckI_e hm
          refine zx_sld C hX hbb h35 dL_law_239 ?_
          refine zx_aload_n C dL_law_240 0 rfl ?_
          refine zx_iload C dL_law_241 4 rfl ?_
          refine zx_iconst (v := 2) C dL_law_243 (by decide) ?_
          refine zx_iadd C dL_law_244 ?_
          obtain ⟨h36, hm⟩ := ckI_e hm
          refine zx_sld C hX hbb h36 dL_law_245 ?_
          refine zx_aload_n C dL_law_246 0 rfl ?_
          refine zx_iload C dL_law_247 4 rfl ?_
          refine zx_iconst (v := 3) C dL_law_249 (by decide) ?_
          refine zx_iadd C dL_law_250 ?_
          obtain ⟨h37, hm⟩ := ckI_e hm
          refine zx_sld C hX hbb h37 dL_law_251 ?_
          refine zx_aload_n C dL_law_252 0 rfl ?_
          refine zx_iload C dL_law_253 4 rfl ?_
          refine zx_iconst (v := 4) C dL_law_255 (by decide) ?_
          refine zx_iadd C dL_law_256 ?_
          obtain ⟨h38, hm⟩ := ckI_e hm
          refine zx_sld C hX hbb h38 dL_law_257 ?_
          refine zx_aload_n C dL_law_258 0 rfl ?_
          refine zx_iload C dL_law_259 4 rfl ?_
          refine zx_iconst (v := 5) C dL_law_261 (by decide) ?_
          refine zx_iadd C dL_law_262 ?_
          obtain ⟨h39, hm⟩ := ckI_e hm
          refine zx_sld C hX hbb h39 dL_law_263 ?_
          obtain ⟨k40, i41, hm⟩ := ckO_e hm
          obtain ⟨v42, ρ43, h44, hm⟩ := cll_e hm
          refine zx_callV (σ := σ) C [.int (xs (((x4) + (1)).toNatClampNeg)), .int (xs (((x4) + (2)).toNatClampNeg)), .int (xs (((x4) + (3)).toNatClampNeg)), .int (xs (((x4) + (4)).toNatClampNeg)), .int (xs (((x4) + (5)).toNatClampNeg))] tC_10 k40 i41 Y_X10_feed W_3_8 W_3_9 W_3_10 (c_X10_feed h44) (by decide) (by decide) rfl (Nat.le_of_ble_eq_true rfl) dL_law_264 rfl ?_
          refine zx_aload_n C dL_law_267 2 rfl ?_
          refine zx_aload_n C dL_law_268 0 rfl ?_
          refine zx_iload C dL_law_269 4 rfl ?_
          refine zx_iconst (v := 1) C dL_law_271 (by decide) ?_
          refine zx_iadd C dL_law_272 ?_
          obtain ⟨h45, hm⟩ := ckI_e hm
          refine zx_sld C hX hbb h45 dL_law_273 ?_
          refine zx_aload_n C dL_law_274 0 rfl ?_
          refine zx_iload C dL_law_275 4 rfl ?_
          refine zx_iconst (v := 2) C dL_law_277 (by decide) ?_
          refine zx_iadd C dL_law_278 ?_
          obtain ⟨h46, hm⟩ := ckI_e hm
          refine zx_sld C hX hbb h46 dL_law_279 ?_
          refine zx_aload_n C dL_law_280 0 rfl ?_
          refine zx_iload C dL_law_281 4 rfl ?_
          refine zx_iconst (v := 3) C dL_law_283 (by decide) ?_
          refine zx_iadd C dL_law_284 ?_
          obtain ⟨h47, hm⟩ := ckI_e hm
          refine zx_sld C hX hbb h47 dL_law_285 ?_
          refine zx_aload_n C dL_law_286 0 rfl ?_
          refine zx_iload C dL_law_287 4 rfl ?_
          refine zx_iconst (v := 4) C dL_law_289 (by decide) ?_
          refine zx_iadd C dL_law_290 ?_
          obtain ⟨h48, hm⟩ := ckI_e hm
          refine zx_sld C hX hbb h48 dL_law_291 ?_
          refine zx_aload_n C dL_law_292 0 rfl ?_
          refine zx_iload C dL_law_293 4 rfl ?_
          refine zx_iconst (v := 5) C dL_law_295 (by decide) ?_
          refine zx_iadd C dL_law_296 ?_
          obtain ⟨h49, hm⟩ := ckI_e hm
          refine zx_sld C hX hbb h49 dL_law_297 ?_
          obtain ⟨k50, i51, hm⟩ := ckO_e hm
          obtain ⟨v52, ρ53, h54, hm⟩ := cll_e hm
          refine zx_callV (σ := ρ43) C [.int (xs (((x4) + (1)).toNatClampNeg)), .int (xs (((x4) + (2)).toNatClampNeg)), .int (xs (((x4) + (3)).toNatClampNeg)), .int (xs (((x4) + (4)).toNatClampNeg)), .int (xs (((x4) + (5)).toNatClampNeg))] tC_11 k50 i51 Y_X12_feed W_7_161 W_7_162 W_7_163 (c_X12_feed h54) (by decide) (by decide) rfl (Nat.le_of_ble_eq_true rfl) dL_law_298 rfl ?_
          refine zx_icmp_eq C 2051 dL_law_301 (by decide) (fun c55 => ?_) (fun c55 => ?_)
          · replace hm := ip_e hm c55
            exact zx_lv [0, 1, 2, 3, 4] [(0, .ref (b)), (1, .ref (x1)), (2, .ref (x2)), (3, .ref (x3)), (4, .int (x4))] rfl (j_L_law_2051 C htab hin hX hbb hrc23   hm)
          · replace hm := in_e hm c55
            refine zx_iconst (v := 0) C dL_law_304 (by decide) ?_
            obtain ⟨rfl, rfl⟩ := ret_e hm
            exact zx_zret C rfl (by decide) rfl rfl dL_law_305
        · replace hm := in_e hm c40_1
          rcases Classical.em ((y18) = (2)) with c40_2 | c40_2
          · replace hm := ip_e hm c40_2
            refine zx_tabIn (off := 266) C 306 dL_law_40 (by rw [c40_2]; decide) (by rw [c40_2]; decide) (by rw [c40_2]; decide) (by decide) ?_
            refine zx_aload_n C dL_law_306 1 rfl ?_
            refine zx_aload_n C dL_law_307 0 rfl ?_
            refine zx_iload C dL_law_308 4 rfl ?_
            refine zx_iconst (v := 1) C dL_law_310 (by decide) ?_
            refine zx_iadd C dL_law_311 ?_
            obtain ⟨h56, hm⟩ := ckI_e hm
            refine zx_sld C hX hbb h56 dL_law_312 ?_
            refine zx_aload_n C dL_law_313 0 rfl ?_
            refine zx_iload C dL_law_314 4 rfl ?_
            refine zx_iconst (v := 2) C dL_law_316 (by decide) ?_
            refine zx_iadd C dL_law_317 ?_
            obtain ⟨h57, hm⟩ := ckI_e hm
            refine zx_sld C hX hbb h57 dL_law_318 ?_
            obtain ⟨k58, i59, hm⟩ := ckO_e hm
            obtain ⟨v60, ρ61, h62, hm⟩ := cll_e hm
            refine zx_callV (σ := σ) C [.int (xs (((x4) + (1)).toNatClampNeg)), .int (xs (((x4) + (2)).toNatClampNeg))] tC_10 k58 i59 Y_X10_path W_3_20 W_3_21 W_3_22 (c_X10_path h62) (by decide) (by decide) rfl (Nat.le_of_ble_eq_true rfl) dL_law_319 rfl ?_
            refine zx_aload_n C dL_law_322 2 rfl ?_
            refine zx_aload_n C dL_law_323 0 rfl ?_
            refine zx_iload C dL_law_324 4 rfl ?_
            refine zx_iconst (v := 1) C dL_law_326 (by decide) ?_
            refine zx_iadd C dL_law_327 ?_
            obtain ⟨h63, hm⟩ := ckI_e hm
            refine zx_sld C hX hbb h63 dL_law_328 ?_
            refine zx_aload_n C dL_law_329 0 rfl ?_
            refine zx_iload C dL_law_330 4 rfl ?_
            refine zx_iconst (v := 2) C dL_law_332 (by decide) ?_
            refine zx_iadd C dL_law_333 ?_
            obtain ⟨h64, hm⟩ := ckI_e hm
            refine zx_sld C hX hbb h64 dL_law_334 ?_
            obtain ⟨k65, i66, hm⟩ := ckO_e hm
            obtain ⟨v67, ρ68, h69, hm⟩ := cll_e hm
            refine zx_callV (σ := ρ61) C [.int (xs (((x4) + (1)).toNatClampNeg)), .int (xs (((x4) + (2)).toNatClampNeg))] tC_11 k65 i66 Y_X12_path W_7_165 W_7_166 W_7_167 (c_X12_path h69) (by decide) (by decide) rfl (Nat.le_of_ble_eq_true rfl) dL_law_335 rfl ?_
            refine zx_icmp_eq C 2051 dL_law_338 (by decide) (fun c70 => ?_) (fun c70 => ?_)
            · replace hm := ip_e hm c70
              exact zx_lv [0, 1, 2, 3, 4] [(0, .ref (b)), (1, .ref (x1)), (2, .ref (x2)), (3, .ref (x3)), (4, .int (x4))] rfl (j_L_law_2051 C htab hin hX hbb hrc23   hm)
            · replace hm := in_e hm c70
              refine zx_iconst (v := 0) C dL_law_341 (by decide) ?_
              obtain ⟨rfl, rfl⟩ := ret_e hm
              exact zx_zret C rfl (by decide) rfl rfl dL_law_342
          · replace hm := in_e hm c40_2
            rcases Classical.em ((y18) = (3)) with c40_3 | c40_3
            · replace hm := ip_e hm c40_3
              refine zx_tabIn (off := 303) C 343 dL_law_40 (by rw [c40_3]; decide) (by rw [c40_3]; decide) (by rw [c40_3]; decide) (by decide) ?_
              refine zx_aload_n C dL_law_343 1 rfl ?_
              refine zx_aload_n C dL_law_344 3 rfl ?_
              obtain ⟨v71, ρ72, h73, hm⟩ := cll_e hm
              refine zx_callSH (σ := σ) C [.ref (x1), .ref (x3)] Y_L_create W_3_100 W_3_101 (c_L_create h73) (by decide) (by decide) rfl (Nat.le_of_ble_eq_true rfl) dL_law_345 rfl ?_
              refine zx_istore C [(5, .int (v71)), (0, .ref (b)), (1, .ref (x1)), (2, .ref (x2)), (3, .ref (x3)), (4, .int (x4))] dL_law_348 (by decide) rfl ?_
              refine zx_aload_n C dL_law_350 3 rfl ?_
              obtain ⟨k74, i75, hm⟩ := ckO_e hm
              obtain ⟨v76, ρ77, h78, hm⟩ := cll_e hm
              refine zx_callVH (σ := ρ72) C [] tC_11 k74 i75 Y_X12_create W_7_170 W_7_171 W_7_172 (c_X12_create h78) (by decide) (by decide) rfl (Nat.le_of_ble_eq_true rfl) dL_law_351 rfl ?_
              refine zx_istore C [(6, .int (v76)), (5, .int (v71)), (0, .ref (b)), (1, .ref (x1)), (2, .ref (x2)), (3, .ref (x3)), (4, .int (x4))] dL_law_354 (by decide) rfl ?_
              refine zx_aload_n C dL_law_356 4 rfl ?_
              obtain ⟨k79, i80, hm⟩ := ckO_e hm
              obtain ⟨v81, ρ82, h83, hm⟩ := cll_e hm
              refine zx_callV (σ := ρ77) C [] tC_11 k79 i80 Y_X12_thrown W_6_190 W_6_191 W_6_192 (c_X12_thrown h83) (by decide) (by decide) rfl (Nat.le_of_ble_eq_true rfl) dL_law_357 rfl ?_
              refine zx_iload C dL_law_360 1 rfl ?_
              refine zx_icmp_eq C 367 dL_law_362 (by decide) (fun c84 => ?_) (fun c84 => ?_)
              · replace hm := ip_e hm c84
                refine zx_iload C dL_law_367 1 rfl ?_
                refine zx_if_ne C 384 dL_law_369 (by decide) (fun c85 => ?_) (fun c85 => ?_)
                · replace hm := in_e hm c85
                  exact zx_lv [2, 3, 4, 5, 6] [(0, .ref (b)), (1, .ref (x1)), (2, .ref (x2)), (3, .ref (x3)), (4, .int (x4))] rfl (j_L_law_384 C htab hin hX hbb hrc23   hm)
                · replace hm := ip_e hm c85
                  refine zx_aload_n C dL_law_372 5 rfl ?_
                  refine zx_iconst (v := 0) C dL_law_373 (by decide) ?_
                  obtain ⟨n88, k86, i87, hm⟩ := ckR_e hm
                  obtain ⟨h89, hm⟩ := ckI_e hm
                  refine zx_lald C k86 i87 h89 dL_law_374 ?_
                  refine zx_iload C dL_law_375 0 rfl ?_
                  refine zx_i2l C dL_law_377 ?_
                  refine zx_lcmp C dL_law_378 ?_
                  refine zx_if_eq C 384 dL_law_379 (by decide) (fun c90 => ?_) (fun c90 => ?_)
                  · replace hm := ip_e hm c90
                    exact zx_lv [2, 3, 4, 5, 6] [(0, .ref (b)), (1, .ref (x1)), (2, .ref (x2)), (3, .ref (x3)), (4, .int (x4))] rfl (j_L_law_384 C htab hin hX hbb hrc23   hm)
                  · replace hm := in_e hm c90
                    refine zx_iconst (v := 0) C dL_law_382 (by decide) ?_
                    obtain ⟨rfl, rfl⟩ := ret_e hm
                    exact zx_zret C rfl (by decide) rfl rfl dL_law_383
              · replace hm := in_e hm c84
                refine zx_iconst (v := 0) C dL_law_365 (by decide) ?_
                obtain ⟨rfl, rfl⟩ := ret_e hm
                exact zx_zret C rfl (by decide) rfl rfl dL_law_366
            · replace hm := in_e hm c40_3
              rcases Classical.em ((y18) = (4)) with c40_4 | c40_4
              · replace hm := ip_e hm c40_4
                refine zx_tabIn (off := 347) C 387 dL_law_40 (by rw [c40_4]; decide) (by rw [c40_4]; decide) (by rw [c40_4]; decide) (by decide) ?_
                refine zx_aload_n C dL_law_387 1 rfl ?_
                refine zx_aload_n C dL_law_388 3 rfl ?_
                obtain ⟨v91, ρ92, h93, hm⟩ := cll_e hm
                refine zx_callSH (σ := σ) C [.ref (x1), .ref (x3)] Y_L_mkdir W_4_229 W_4_230 (c_L_mkdir h93) (by decide) (by decide) rfl (Nat.le_of_ble_eq_true rfl) dL_law_389 rfl ?_
                refine zx_istore C [(5, .int (v91)), (0, .ref (b)), (1, .ref (x1)), (2, .ref (x2)), (3, .ref (x3)), (4, .int (x4))] dL_law_392 (by decide) rfl ?_
                refine zx_aload_n C dL_law_394 3 rfl ?_
                obtain ⟨k94, i95, hm⟩ := ckO_e hm
                obtain ⟨v96, ρ97, h98, hm⟩ := cll_e hm
                refine zx_callVH (σ := ρ92) C [] tC_11 k94 i95 Y_X12_mkdir W_8_139 W_8_140 W_8_141 (c_X12_mkdir h98) (by decide) (by decide) rfl (Nat.le_of_ble_eq_true rfl) dL_law_395 rfl ?_
                refine zx_istore C [(6, .int (v96)), (5, .int (v91)), (0, .ref (b)), (1, .ref (x1)), (2, .ref (x2)), (3, .ref (x3)), (4, .int (x4))] dL_law_398 (by decide) rfl ?_
                refine zx_aload_n C dL_law_400 4 rfl ?_
                obtain ⟨k99, i100, hm⟩ := ckO_e hm
                obtain ⟨v101, ρ102, h103, hm⟩ := cll_e hm
                refine zx_callV (σ := ρ97) C [] tC_11 k99 i100 Y_X12_thrown W_6_190 W_6_191 W_6_192 (c_X12_thrown h103) (by decide) (by decide) rfl (Nat.le_of_ble_eq_true rfl) dL_law_401 rfl ?_
                refine zx_iload C dL_law_404 1 rfl ?_
                refine zx_icmp_eq C 411 dL_law_406 (by decide) (fun c104 => ?_) (fun c104 => ?_)
                · replace hm := ip_e hm c104
                  refine zx_iload C dL_law_411 1 rfl ?_
                  refine zx_if_ne C 428 dL_law_413 (by decide) (fun c105 => ?_) (fun c105 => ?_)
                  · replace hm := in_e hm c105
                    exact zx_lv [2, 3, 4, 5, 6] [(0, .ref (b)), (1, .ref (x1)), (2, .ref (x2)), (3, .ref (x3)), (4, .int (x4))] rfl (j_L_law_428 C htab hin hX hbb hrc23   hm)
                  · replace hm := ip_e hm c105
                    refine zx_aload_n C dL_law_416 5 rfl ?_
                    refine zx_iconst (v := 0) C dL_law_417 (by decide) ?_
                    obtain ⟨n108, k106, i107, hm⟩ := ckR_e hm
                    obtain ⟨h109, hm⟩ := ckI_e hm
                    refine zx_lald C k106 i107 h109 dL_law_418 ?_
                    refine zx_iload C dL_law_419 0 rfl ?_
                    refine zx_i2l C dL_law_421 ?_
                    refine zx_lcmp C dL_law_422 ?_
                    refine zx_if_eq C 428 dL_law_423 (by decide) (fun c110 => ?_) (fun c110 => ?_)
                    · replace hm := ip_e hm c110
                      exact zx_lv [2, 3, 4, 5, 6] [(0, .ref (b)), (1, .ref (x1)), (2, .ref (x2)), (3, .ref (x3)), (4, .int (x4))] rfl (j_L_law_428 C htab hin hX hbb hrc23   hm)
                    · replace hm := in_e hm c110
                      refine zx_iconst (v := 0) C dL_law_426 (by decide) ?_
                      obtain ⟨rfl, rfl⟩ := ret_e hm
                      exact zx_zret C rfl (by decide) rfl rfl dL_law_427
                · replace hm := in_e hm c104
                  refine zx_iconst (v := 0) C dL_law_409 (by decide) ?_
                  obtain ⟨rfl, rfl⟩ := ret_e hm
                  exact zx_zret C rfl (by decide) rfl rfl dL_law_410
              · replace hm := in_e hm c40_4
                rcases Classical.em ((y18) = (5)) with c40_5 | c40_5
                · replace hm := ip_e hm c40_5
                  refine zx_tabIn (off := 391) C 431 dL_law_40 (by rw [c40_5]; decide) (by rw [c40_5]; decide) (by rw [c40_5]; decide) (by decide) ?_
                  refine zx_aload_n C dL_law_431 1 rfl ?_
                  refine zx_aload_n C dL_law_432 3 rfl ?_
                  obtain ⟨v111, ρ112, h113, hm⟩ := cll_e hm
                  refine zx_callSH (σ := σ) C [.ref (x1), .ref (x3)] Y_L_symlink W_4_236 W_4_237 (c_L_symlink h113) (by decide) (by decide) rfl (Nat.le_of_ble_eq_true rfl) dL_law_433 rfl ?_
                  refine zx_istore C [(5, .int (v111)), (0, .ref (b)), (1, .ref (x1)), (2, .ref (x2)), (3, .ref (x3)), (4, .int (x4))] dL_law_436 (by decide) rfl ?_
                  refine zx_aload_n C dL_law_438 3 rfl ?_
                  obtain ⟨k114, i115, hm⟩ := ckO_e hm
                  obtain ⟨v116, ρ117, h118, hm⟩ := cll_e hm
                  refine zx_callVH (σ := ρ112) C [] tC_11 k114 i115 Y_X12_symlink W_8_143 W_8_144 W_8_145 (c_X12_symlink h118) (by decide) (by decide) rfl (Nat.le_of_ble_eq_true rfl) dL_law_439 rfl ?_
                  refine zx_istore C [(6, .int (v116)), (5, .int (v111)), (0, .ref (b)), (1, .ref (x1)), (2, .ref (x2)), (3, .ref (x3)), (4, .int (x4))] dL_law_442 (by decide) rfl ?_
                  refine zx_aload_n C dL_law_444 4 rfl ?_
                  obtain ⟨k119, i120, hm⟩ := ckO_e hm
                  obtain ⟨v121, ρ122, h123, hm⟩ := cll_e hm
                  refine zx_callV (σ := ρ117) C [] tC_11 k119 i120 Y_X12_thrown W_6_190 W_6_191 W_6_192 (c_X12_thrown h123) (by decide) (by decide) rfl (Nat.le_of_ble_eq_true rfl) dL_law_445 rfl ?_
                  refine zx_iload C dL_law_448 1 rfl ?_
                  refine zx_icmp_eq C 455 dL_law_450 (by decide) (fun c124 => ?_) (fun c124 => ?_)
                  · replace hm := ip_e hm c124
                    refine zx_iload C dL_law_455 1 rfl ?_
                    refine zx_if_ne C 472 dL_law_457 (by decide) (fun c125 => ?_) (fun c125 => ?_)
                    · replace hm := in_e hm c125
                      exact zx_lv [2, 3, 4, 5, 6] [(0, .ref (b)), (1, .ref (x1)), (2, .ref (x2)), (3, .ref (x3)), (4, .int (x4))] rfl (j_L_law_472 C htab hin hX hbb hrc23   hm)
                    · replace hm := ip_e hm c125
                      refine zx_aload_n C dL_law_460 5 rfl ?_
                      refine zx_iconst (v := 0) C dL_law_461 (by decide) ?_
                      obtain ⟨n128, k126, i127, hm⟩ := ckR_e hm
                      obtain ⟨h129, hm⟩ := ckI_e hm
                      refine zx_lald C k126 i127 h129 dL_law_462 ?_
                      refine zx_iload C dL_law_463 0 rfl ?_
                      refine zx_i2l C dL_law_465 ?_
                      refine zx_lcmp C dL_law_466 ?_
                      refine zx_if_eq C 472 dL_law_467 (by decide) (fun c130 => ?_) (fun c130 => ?_)
                      · replace hm := ip_e hm c130
                        exact zx_lv [2, 3, 4, 5, 6] [(0, .ref (b)), (1, .ref (x1)), (2, .ref (x2)), (3, .ref (x3)), (4, .int (x4))] rfl (j_L_law_472 C htab hin hX hbb hrc23   hm)
                      · replace hm := in_e hm c130
                        refine zx_iconst (v := 0) C dL_law_470 (by decide) ?_
                        obtain ⟨rfl, rfl⟩ := ret_e hm
                        exact zx_zret C rfl (by decide) rfl rfl dL_law_471
                  · replace hm := in_e hm c124
                    refine zx_iconst (v := 0) C dL_law_453 (by decide) ?_
                    obtain ⟨rfl, rfl⟩ := ret_e hm
                    exact zx_zret C rfl (by decide) rfl rfl dL_law_454
                · replace hm := in_e hm c40_5
                  rcases Classical.em ((y18) = (6)) with c40_6 | c40_6
                  · replace hm := ip_e hm c40_6
                    refine zx_tabIn (off := 435) C 475 dL_law_40 (by rw [c40_6]; decide) (by rw [c40_6]; decide) (by rw [c40_6]; decide) (by decide) ?_
                    refine zx_aload_n C dL_law_475 1 rfl ?_
                    refine zx_aload_n C dL_law_476 3 rfl ?_
                    obtain ⟨v131, ρ132, h133, hm⟩ := cll_e hm
                    refine zx_callSH (σ := σ) C [.ref (x1), .ref (x3)] Y_L_link W_5_3 W_5_4 (c_L_link h133) (by decide) (by decide) rfl (Nat.le_of_ble_eq_true rfl) dL_law_477 rfl ?_
                    refine zx_istore C [(5, .int (v131)), (0, .ref (b)), (1, .ref (x1)), (2, .ref (x2)), (3, .ref (x3)), (4, .int (x4))] dL_law_480 (by decide) rfl ?_
                    refine zx_aload_n C dL_law_482 3 rfl ?_
                    obtain ⟨k134, i135, hm⟩ := ckO_e hm
                    obtain ⟨v136, ρ137, h138, hm⟩ := cll_e hm
                    refine zx_callVH (σ := ρ132) C [] tC_11 k134 i135 Y_X12_link W_8_147 W_8_148 W_8_149 (c_X12_link h138) (by decide) (by decide) rfl (Nat.le_of_ble_eq_true rfl) dL_law_483 rfl ?_
                    refine zx_istore C [(6, .int (v136)), (5, .int (v131)), (0, .ref (b)), (1, .ref (x1)), (2, .ref (x2)), (3, .ref (x3)), (4, .int (x4))] dL_law_486 (by decide) rfl ?_
                    refine zx_aload_n C dL_law_488 4 rfl ?_
                    obtain ⟨k139, i140, hm⟩ := ckO_e hm
                    obtain ⟨v141, ρ142, h143, hm⟩ := cll_e hm
                    refine zx_callV (σ := ρ137) C [] tC_11 k139 i140 Y_X12_thrown W_6_190 W_6_191 W_6_192 (c_X12_thrown h143) (by decide) (by decide) rfl (Nat.le_of_ble_eq_true rfl) dL_law_489 rfl ?_
                    refine zx_iload C dL_law_492 1 rfl ?_
                    refine zx_icmp_eq C 499 dL_law_494 (by decide) (fun c144 => ?_) (fun c144 => ?_)
                    · replace hm := ip_e hm c144
                      refine zx_iload C dL_law_499 1 rfl ?_
                      refine zx_if_ne C 516 dL_law_501 (by decide) (fun c145 => ?_) (fun c145 => ?_)
                      · replace hm := in_e hm c145
                        exact zx_lv [2, 3, 4, 5, 6] [(0, .ref (b)), (1, .ref (x1)), (2, .ref (x2)), (3, .ref (x3)), (4, .int (x4))] rfl (j_L_law_516 C htab hin hX hbb hrc23   hm)
                      · replace hm := ip_e hm c145
                        refine zx_aload_n C dL_law_504 5 rfl ?_
                        refine zx_iconst (v := 0) C dL_law_505 (by decide) ?_
                        obtain ⟨n148, k146, i147, hm⟩ := ckR_e hm
                        obtain ⟨h149, hm⟩ := ckI_e hm
                        refine zx_lald C k146 i147 h149 dL_law_506 ?_
                        refine zx_iload C dL_law_507 0 rfl ?_
                        refine zx_i2l C dL_law_509 ?_
                        refine zx_lcmp C dL_law_510 ?_
                        refine zx_if_eq C 516 dL_law_511 (by decide) (fun c150 => ?_) (fun c150 => ?_)
                        · replace hm := ip_e hm c150
                          exact zx_lv [2, 3, 4, 5, 6] [(0, .ref (b)), (1, .ref (x1)), (2, .ref (x2)), (3, .ref (x3)), (4, .int (x4))] rfl (j_L_law_516 C htab hin hX hbb hrc23   hm)
                        · replace hm := in_e hm c150
                          refine zx_iconst (v := 0) C dL_law_514 (by decide) ?_
                          obtain ⟨rfl, rfl⟩ := ret_e hm
                          exact zx_zret C rfl (by decide) rfl rfl dL_law_515
                    · replace hm := in_e hm c144
                      refine zx_iconst (v := 0) C dL_law_497 (by decide) ?_
                      obtain ⟨rfl, rfl⟩ := ret_e hm
                      exact zx_zret C rfl (by decide) rfl rfl dL_law_498
                  · replace hm := in_e hm c40_6
                    rcases Classical.em ((y18) = (7)) with c40_7 | c40_7
                    · replace hm := ip_e hm c40_7
                      refine zx_tabIn (off := 479) C 519 dL_law_40 (by rw [c40_7]; decide) (by rw [c40_7]; decide) (by rw [c40_7]; decide) (by decide) ?_
                      refine zx_aload_n C dL_law_519 1 rfl ?_
                      refine zx_aload_n C dL_law_520 3 rfl ?_
                      obtain ⟨v151, ρ152, h153, hm⟩ := cll_e hm
                      refine zx_callSH (σ := σ) C [.ref (x1), .ref (x3)] Y_L_unlink W_5_21 W_5_22 (c_L_unlink h153) (by decide) (by decide) rfl (Nat.le_of_ble_eq_true rfl) dL_law_521 rfl ?_
                      refine zx_istore C [(5, .int (v151)), (0, .ref (b)), (1, .ref (x1)), (2, .ref (x2)), (3, .ref (x3)), (4, .int (x4))] dL_law_524 (by decide) rfl ?_
                      refine zx_aload_n C dL_law_526 3 rfl ?_
                      obtain ⟨k154, i155, hm⟩ := ckO_e hm
                      obtain ⟨v156, ρ157, h158, hm⟩ := cll_e hm
                      refine zx_callVH (σ := ρ152) C [] tC_11 k154 i155 Y_X12_unlink W_8_155 W_8_156 W_8_157 (c_X12_unlink h158) (by decide) (by decide) rfl (Nat.le_of_ble_eq_true rfl) dL_law_527 rfl ?_
                      refine zx_istore C [(6, .int (v156)), (5, .int (v151)), (0, .ref (b)), (1, .ref (x1)), (2, .ref (x2)), (3, .ref (x3)), (4, .int (x4))] dL_law_530 (by decide) rfl ?_
                      refine zx_aload_n C dL_law_532 4 rfl ?_
                      obtain ⟨k159, i160, hm⟩ := ckO_e hm
                      obtain ⟨v161, ρ162, h163, hm⟩ := cll_e hm
                      refine zx_callV (σ := ρ157) C [] tC_11 k159 i160 Y_X12_thrown W_6_190 W_6_191 W_6_192 (c_X12_thrown h163) (by decide) (by decide) rfl (Nat.le_of_ble_eq_true rfl) dL_law_533 rfl ?_
                      refine zx_iload C dL_law_536 1 rfl ?_
                      refine zx_icmp_eq C 543 dL_law_538 (by decide) (fun c164 => ?_) (fun c164 => ?_)
                      · replace hm := ip_e hm c164
                        refine zx_iload C dL_law_543 1 rfl ?_
                        refine zx_if_ne C 560 dL_law_545 (by decide) (fun c165 => ?_) (fun c165 => ?_)
                        · replace hm := in_e hm c165
                          exact zx_lv [2, 3, 4, 5, 6] [(0, .ref (b)), (1, .ref (x1)), (2, .ref (x2)), (3, .ref (x3)), (4, .int (x4))] rfl (j_L_law_560 C htab hin hX hbb hrc23   hm)
                        · replace hm := ip_e hm c165
                          refine zx_aload_n C dL_law_548 5 rfl ?_
                          refine zx_iconst (v := 0) C dL_law_549 (by decide) ?_
                          obtain ⟨n168, k166, i167, hm⟩ := ckR_e hm
                          obtain ⟨h169, hm⟩ := ckI_e hm
                          refine zx_lald C k166 i167 h169 dL_law_550 ?_
                          refine zx_iload C dL_law_551 0 rfl ?_
                          refine zx_i2l C dL_law_553 ?_
                          refine zx_lcmp C dL_law_554 ?_
                          refine zx_if_eq C 560 dL_law_555 (by decide) (fun c170 => ?_) (fun c170 => ?_)
                          · replace hm := ip_e hm c170
                            exact zx_lv [2, 3, 4, 5, 6] [(0, .ref (b)), (1, .ref (x1)), (2, .ref (x2)), (3, .ref (x3)), (4, .int (x4))] rfl (j_L_law_560 C htab hin hX hbb hrc23   hm)
                          · replace hm := in_e hm c170
                            refine zx_iconst (v := 0) C dL_law_558 (by decide) ?_
                            obtain ⟨rfl, rfl⟩ := ret_e hm
                            exact zx_zret C rfl (by decide) rfl rfl dL_law_559
                      · replace hm := in_e hm c164
                        refine zx_iconst (v := 0) C dL_law_541 (by decide) ?_
                        obtain ⟨rfl, rfl⟩ := ret_e hm
                        exact zx_zret C rfl (by decide) rfl rfl dL_law_542
                    · replace hm := in_e hm c40_7
                      rcases Classical.em ((y18) = (8)) with c40_8 | c40_8
                      · replace hm := ip_e hm c40_8
                        refine zx_tabIn (off := 523) C 563 dL_law_40 (by rw [c40_8]; decide) (by rw [c40_8]; decide) (by rw [c40_8]; decide) (by decide) ?_
                        refine zx_aload_n C dL_law_563 1 rfl ?_
                        refine zx_aload_n C dL_law_564 3 rfl ?_
                        obtain ⟨v171, ρ172, h173, hm⟩ := cll_e hm
                        refine zx_callSH (σ := σ) C [.ref (x1), .ref (x3)] Y_L_rmdir W_5_88 W_5_89 (c_L_rmdir h173) (by decide) (by decide) rfl (Nat.le_of_ble_eq_true rfl) dL_law_565 rfl ?_
                        refine zx_istore C [(5, .int (v171)), (0, .ref (b)), (1, .ref (x1)), (2, .ref (x2)), (3, .ref (x3)), (4, .int (x4))] dL_law_568 (by decide) rfl ?_
                        refine zx_aload_n C dL_law_570 3 rfl ?_
                        obtain ⟨k174, i175, hm⟩ := ckO_e hm
                        obtain ⟨v176, ρ177, h178, hm⟩ := cll_e hm
                        refine zx_callVH (σ := ρ172) C [] tC_11 k174 i175 Y_X12_rmdir W_8_197 W_8_198 W_8_199 (c_X12_rmdir h178) (by decide) (by decide) rfl (Nat.le_of_ble_eq_true rfl) dL_law_571 rfl ?_
                        refine zx_istore C [(6, .int (v176)), (5, .int (v171)), (0, .ref (b)), (1, .ref (x1)), (2, .ref (x2)), (3, .ref (x3)), (4, .int (x4))] dL_law_574 (by decide) rfl ?_
                        refine zx_aload_n C dL_law_576 4 rfl ?_
                        obtain ⟨k179, i180, hm⟩ := ckO_e hm
                        obtain ⟨v181, ρ182, h183, hm⟩ := cll_e hm
                        refine zx_callV (σ := ρ177) C [] tC_11 k179 i180 Y_X12_thrown W_6_190 W_6_191 W_6_192 (c_X12_thrown h183) (by decide) (by decide) rfl (Nat.le_of_ble_eq_true rfl) dL_law_577 rfl ?_
                        refine zx_iload C dL_law_580 1 rfl ?_
                        refine zx_icmp_eq C 587 dL_law_582 (by decide) (fun c184 => ?_) (fun c184 => ?_)
                        · replace hm := ip_e hm c184
                          refine zx_iload C dL_law_587 1 rfl ?_
                          refine zx_if_ne C 604 dL_law_589 (by decide) (fun c185 => ?_) (fun c185 => ?_)
                          · replace hm := in_e hm c185
                            exact zx_lv [2, 3, 4, 5, 6] [(0, .ref (b)), (1, .ref (x1)), (2, .ref (x2)), (3, .ref (x3)), (4, .int (x4))] rfl (j_L_law_604 C htab hin hX hbb hrc23   hm)
                          · replace hm := ip_e hm c185
                            refine zx_aload_n C dL_law_592 5 rfl ?_
                            refine zx_iconst (v := 0) C dL_law_593 (by decide) ?_
                            obtain ⟨n188, k186, i187, hm⟩ := ckR_e hm
                            obtain ⟨h189, hm⟩ := ckI_e hm
                            refine zx_lald C k186 i187 h189 dL_law_594 ?_
                            refine zx_iload C dL_law_595 0 rfl ?_
                            refine zx_i2l C dL_law_597 ?_
                            refine zx_lcmp C dL_law_598 ?_
                            refine zx_if_eq C 604 dL_law_599 (by decide) (fun c190 => ?_) (fun c190 => ?_)
                            · replace hm := ip_e hm c190
                              exact zx_lv [2, 3, 4, 5, 6] [(0, .ref (b)), (1, .ref (x1)), (2, .ref (x2)), (3, .ref (x3)), (4, .int (x4))] rfl (j_L_law_604 C htab hin hX hbb hrc23   hm)
                            · replace hm := in_e hm c190
                              refine zx_iconst (v := 0) C dL_law_602 (by decide) ?_
                              obtain ⟨rfl, rfl⟩ := ret_e hm
                              exact zx_zret C rfl (by decide) rfl rfl dL_law_603
                        · replace hm := in_e hm c184
                          refine zx_iconst (v := 0) C dL_law_585 (by decide) ?_
                          obtain ⟨rfl, rfl⟩ := ret_e hm
                          exact zx_zret C rfl (by decide) rfl rfl dL_law_586
                      · replace hm := in_e hm c40_8
                        rcases Classical.em ((y18) = (9)) with c40_9 | c40_9
                        · replace hm := ip_e hm c40_9
                          refine zx_tabIn (off := 567) C 607 dL_law_40 (by rw [c40_9]; decide) (by rw [c40_9]; decide) (by rw [c40_9]; decide) (by decide) ?_
                          refine zx_aload_n C dL_law_607 1 rfl ?_
                          refine zx_aload_n C dL_law_608 3 rfl ?_
                          obtain ⟨v191, ρ192, h193, hm⟩ := cll_e hm
                          refine zx_callSH (σ := σ) C [.ref (x1), .ref (x3)] Y_L_rename W_5_99 W_5_100 (c_L_rename h193) (by decide) (by decide) rfl (Nat.le_of_ble_eq_true rfl) dL_law_609 rfl ?_
                          refine zx_istore C [(5, .int (v191)), (0, .ref (b)), (1, .ref (x1)), (2, .ref (x2)), (3, .ref (x3)), (4, .int (x4))] dL_law_612 (by decide) rfl ?_
                          refine zx_aload_n C dL_law_614 3 rfl ?_
                          obtain ⟨k194, i195, hm⟩ := ckO_e hm
                          obtain ⟨v196, ρ197, h198, hm⟩ := cll_e hm
                          refine zx_callVH (σ := ρ192) C [] tC_11 k194 i195 Y_X12_rename W_8_201 W_8_202 W_8_203 (c_X12_rename h198) (by decide) (by decide) rfl (Nat.le_of_ble_eq_true rfl) dL_law_615 rfl ?_
                          refine zx_istore C [(6, .int (v196)), (5, .int (v191)), (0, .ref (b)), (1, .ref (x1)), (2, .ref (x2)), (3, .ref (x3)), (4, .int (x4))] dL_law_618 (by decide) rfl ?_
                          refine zx_aload_n C dL_law_620 4 rfl ?_
                          obtain ⟨k199, i200, hm⟩ := ckO_e hm
                          obtain ⟨v201, ρ202, h203, hm⟩ := cll_e hm
                          refine zx_callV (σ := ρ197) C [] tC_11 k199 i200 Y_X12_thrown W_6_190 W_6_191 W_6_192 (c_X12_thrown h203) (by decide) (by decide) rfl (Nat.le_of_ble_eq_true rfl) dL_law_621 rfl ?_
                          refine zx_iload C dL_law_624 1 rfl ?_
                          refine zx_icmp_eq C 631 dL_law_626 (by decide) (fun c204 => ?_) (fun c204 => ?_)
                          · replace hm := ip_e hm c204
                            refine zx_iload C dL_law_631 1 rfl ?_
                            refine zx_if_ne C 648 dL_law_633 (by decide) (fun c205 => ?_) (fun c205 => ?_)
                            · replace hm := in_e hm c205
                              exact zx_lv [2, 3, 4, 5, 6] [(0, .ref (b)), (1, .ref (x1)), (2, .ref (x2)), (3, .ref (x3)), (4, .int (x4))] rfl (j_L_law_648 C htab hin hX hbb hrc23   hm)
                            · replace hm := ip_e hm c205
                              refine zx_aload_n C dL_law_636 5 rfl ?_
                              refine zx_iconst (v := 0) C dL_law_637 (by decide) ?_
                              obtain ⟨n208, k206, i207, hm⟩ := ckR_e hm
                              obtain ⟨h209, hm⟩ := ckI_e hm
                              refine zx_lald C k206 i207 h209 dL_law_638 ?_
                              refine zx_iload C dL_law_639 0 rfl ?_
                              refine zx_i2l C dL_law_641 ?_
                              refine zx_lcmp C dL_law_642 ?_
                              refine zx_if_eq C 648 dL_law_643 (by decide) (fun c210 => ?_) (fun c210 => ?_)
                              · replace hm := ip_e hm c210
                                exact zx_lv [2, 3, 4, 5, 6] [(0, .ref (b)), (1, .ref (x1)), (2, .ref (x2)), (3, .ref (x3)), (4, .int (x4))] rfl (j_L_law_648 C htab hin hX hbb hrc23   hm)
                              · replace hm := in_e hm c210
                                refine zx_iconst (v := 0) C dL_law_646 (by decide) ?_
                                obtain ⟨rfl, rfl⟩ := ret_e hm
                                exact zx_zret C rfl (by decide) rfl rfl dL_law_647
                          · replace hm := in_e hm c204
                            refine zx_iconst (v := 0) C dL_law_629 (by decide) ?_
                            obtain ⟨rfl, rfl⟩ := ret_e hm
                            exact zx_zret C rfl (by decide) rfl rfl dL_law_630
                        · replace hm := in_e hm c40_9
                          rcases Classical.em ((y18) = (10)) with c40_10 | c40_10
                          · replace hm := ip_e hm c40_10
                            refine zx_tabIn (off := 611) C 651 dL_law_40 (by rw [c40_10]; decide) (by rw [c40_10]; decide) (by rw [c40_10]; decide) (by decide) ?_
                            refine zx_aload_n C dL_law_651 1 rfl ?_
                            refine zx_aload_n C dL_law_652 3 rfl ?_
                            obtain ⟨v211, ρ212, h213, hm⟩ := cll_e hm
                            refine zx_callSH (σ := σ) C [.ref (x1), .ref (x3)] Y_L_open W_5_123 W_5_124 (c_L_open h213) (by decide) (by decide) rfl (Nat.le_of_ble_eq_true rfl) dL_law_653 rfl ?_
                            refine zx_istore C [(5, .int (v211)), (0, .ref (b)), (1, .ref (x1)), (2, .ref (x2)), (3, .ref (x3)), (4, .int (x4))] dL_law_656 (by decide) rfl ?_
                            refine zx_aload_n C dL_law_658 3 rfl ?_
                            obtain ⟨k214, i215, hm⟩ := ckO_e hm
                            obtain ⟨v216, ρ217, h218, hm⟩ := cll_e hm
                            refine zx_callVH (σ := ρ212) C [] tC_11 k214 i215 Y_X12_open W_8_213 W_8_214 W_8_215 (c_X12_open h218) (by decide) (by decide) rfl (Nat.le_of_ble_eq_true rfl) dL_law_659 rfl ?_
                            refine zx_istore C [(6, .int (v216)), (5, .int (v211)), (0, .ref (b)), (1, .ref (x1)), (2, .ref (x2)), (3, .ref (x3)), (4, .int (x4))] dL_law_662 (by decide) rfl ?_
                            refine zx_aload_n C dL_law_664 4 rfl ?_
                            obtain ⟨k219, i220, hm⟩ := ckO_e hm
                            obtain ⟨v221, ρ222, h223, hm⟩ := cll_e hm
                            refine zx_callV (σ := ρ217) C [] tC_11 k219 i220 Y_X12_thrown W_6_190 W_6_191 W_6_192 (c_X12_thrown h223) (by decide) (by decide) rfl (Nat.le_of_ble_eq_true rfl) dL_law_665 rfl ?_
                            refine zx_iload C dL_law_668 1 rfl ?_
                            refine zx_icmp_eq C 675 dL_law_670 (by decide) (fun c224 => ?_) (fun c224 => ?_)
                            · replace hm := ip_e hm c224
                              refine zx_iload C dL_law_675 1 rfl ?_
                              refine zx_if_ne C 692 dL_law_677 (by decide) (fun c225 => ?_) (fun c225 => ?_)
                              · replace hm := in_e hm c225
                                exact zx_lv [2, 3, 4, 5, 6] [(0, .ref (b)), (1, .ref (x1)), (2, .ref (x2)), (3, .ref (x3)), (4, .int (x4))] rfl (j_L_law_692 C htab hin hX hbb hrc23   hm)
                              · replace hm := ip_e hm c225
                                refine zx_aload_n C dL_law_680 5 rfl ?_
                                refine zx_iconst (v := 0) C dL_law_681 (by decide) ?_
                                obtain ⟨n228, k226, i227, hm⟩ := ckR_e hm
                                obtain ⟨h229, hm⟩ := ckI_e hm
                                refine zx_lald C k226 i227 h229 dL_law_682 ?_
                                refine zx_iload C dL_law_683 0 rfl ?_
                                refine zx_i2l C dL_law_685 ?_
                                refine zx_lcmp C dL_law_686 ?_
                                refine zx_if_eq C 692 dL_law_687 (by decide) (fun c230 => ?_) (fun c230 => ?_)
                                · replace hm := ip_e hm c230
                                  exact zx_lv [2, 3, 4, 5, 6] [(0, .ref (b)), (1, .ref (x1)), (2, .ref (x2)), (3, .ref (x3)), (4, .int (x4))] rfl (j_L_law_692 C htab hin hX hbb hrc23   hm)
                                · replace hm := in_e hm c230
                                  refine zx_iconst (v := 0) C dL_law_690 (by decide) ?_
                                  obtain ⟨rfl, rfl⟩ := ret_e hm
                                  exact zx_zret C rfl (by decide) rfl rfl dL_law_691
                            · replace hm := in_e hm c224
                              refine zx_iconst (v := 0) C dL_law_673 (by decide) ?_
                              obtain ⟨rfl, rfl⟩ := ret_e hm
                              exact zx_zret C rfl (by decide) rfl rfl dL_law_674
                          · replace hm := in_e hm c40_10
                            rcases Classical.em ((y18) = (11)) with c40_11 | c40_11
                            · replace hm := ip_e hm c40_11
                              refine zx_tabIn (off := 655) C 695 dL_law_40 (by rw [c40_11]; decide) (by rw [c40_11]; decide) (by rw [c40_11]; decide) (by decide) ?_
                              refine zx_aload_n C dL_law_695 1 rfl ?_
                              refine zx_aload_n C dL_law_696 0 rfl ?_
                              refine zx_iload C dL_law_697 4 rfl ?_
                              refine zx_iconst (v := 1) C dL_law_699 (by decide) ?_
                              refine zx_iadd C dL_law_700 ?_
                              obtain ⟨h231, hm⟩ := ckI_e hm
                              refine zx_sld C hX hbb h231 dL_law_701 ?_
                              refine zx_aload_n C dL_law_702 3 rfl ?_
                              obtain ⟨v232, ρ233, h234, hm⟩ := cll_e hm
                              refine zx_callSH (σ := σ) C [.ref (x1), .int (xs (((x4) + (1)).toNatClampNeg)), .ref (x3)] Y_L_close W_5_131 W_5_132 (c_L_close h234) (by decide) (by decide) rfl (Nat.le_of_ble_eq_true rfl) dL_law_703 rfl ?_
                              refine zx_istore C [(5, .int (v232)), (0, .ref (b)), (1, .ref (x1)), (2, .ref (x2)), (3, .ref (x3)), (4, .int (x4))] dL_law_706 (by decide) rfl ?_
                              refine zx_aload_n C dL_law_708 3 rfl ?_
                              refine zx_aload_n C dL_law_709 1 rfl ?_
                              refine zx_iload C dL_law_710 5 rfl ?_
                              refine zx_iconst (v := 1) C dL_law_712 (by decide) ?_
                              refine zx_iadd C dL_law_713 ?_
                              obtain ⟨h235, hm⟩ := ckI_e hm
                              refine zx_sld C hX hbb h235 dL_law_714 ?_
                              obtain ⟨k236, i237, hm⟩ := ckO_e hm
                              obtain ⟨v238, ρ239, h240, hm⟩ := cll_e hm
                              refine zx_callVH (σ := ρ233) C [.int (xs (((x4) + (1)).toNatClampNeg))] tC_11 k236 i237 Y_X12_close W_8_217 W_8_218 W_8_219 (c_X12_close h240) (by decide) (by decide) rfl (Nat.le_of_ble_eq_true rfl) dL_law_715 rfl ?_
                              refine zx_istore C [(6, .int (v238)), (5, .int (v232)), (0, .ref (b)), (1, .ref (x1)), (2, .ref (x2)), (3, .ref (x3)), (4, .int (x4))] dL_law_718 (by decide) rfl ?_
                              refine zx_aload_n C dL_law_720 4 rfl ?_
                              obtain ⟨k241, i242, hm⟩ := ckO_e hm
                              obtain ⟨v243, ρ244, h245, hm⟩ := cll_e hm
                              refine zx_callV (σ := ρ239) C [] tC_11 k241 i242 Y_X12_thrown W_6_190 W_6_191 W_6_192 (c_X12_thrown h245) (by decide) (by decide) rfl (Nat.le_of_ble_eq_true rfl) dL_law_721 rfl ?_
                              refine zx_iload C dL_law_724 1 rfl ?_
                              refine zx_icmp_eq C 731 dL_law_726 (by decide) (fun c246 => ?_) (fun c246 => ?_)
                              · replace hm := ip_e hm c246
                                refine zx_iload C dL_law_731 1 rfl ?_
                                refine zx_if_ne C 748 dL_law_733 (by decide) (fun c247 => ?_) (fun c247 => ?_)
                                · replace hm := in_e hm c247
                                  exact zx_lv [2, 3, 4, 5, 6] [(0, .ref (b)), (1, .ref (x1)), (2, .ref (x2)), (3, .ref (x3)), (4, .int (x4))] rfl (j_L_law_748 C htab hin hX hbb hrc23   hm)
                                · replace hm := ip_e hm c247
                                  refine zx_aload_n C dL_law_736 5 rfl ?_
                                  refine zx_iconst (v := 0) C dL_law_737 (by decide) ?_
                                  obtain ⟨n250, k248, i249, hm⟩ := ckR_e hm
                                  obtain ⟨h251, hm⟩ := ckI_e hm
                                  refine zx_lald C k248 i249 h251 dL_law_738 ?_
                                  refine zx_iload C dL_law_739 0 rfl ?_
                                  refine zx_i2l C dL_law_741 ?_
                                  refine zx_lcmp C dL_law_742 ?_
                                  refine zx_if_eq C 748 dL_law_743 (by decide) (fun c252 => ?_) (fun c252 => ?_)
                                  · replace hm := ip_e hm c252
                                    exact zx_lv [2, 3, 4, 5, 6] [(0, .ref (b)), (1, .ref (x1)), (2, .ref (x2)), (3, .ref (x3)), (4, .int (x4))] rfl (j_L_law_748 C htab hin hX hbb hrc23   hm)
                                  · replace hm := in_e hm c252
                                    refine zx_iconst (v := 0) C dL_law_746 (by decide) ?_
                                    obtain ⟨rfl, rfl⟩ := ret_e hm
                                    exact zx_zret C rfl (by decide) rfl rfl dL_law_747
                              · replace hm := in_e hm c246
                                refine zx_iconst (v := 0) C dL_law_729 (by decide) ?_
                                obtain ⟨rfl, rfl⟩ := ret_e hm
                                exact zx_zret C rfl (by decide) rfl rfl dL_law_730
                            · replace hm := in_e hm c40_11
                              rcases Classical.em ((y18) = (12)) with c40_12 | c40_12
                              · replace hm := ip_e hm c40_12
                                refine zx_tabIn (off := 711) C 751 dL_law_40 (by rw [c40_12]; decide) (by rw [c40_12]; decide) (by rw [c40_12]; decide) (by decide) ?_
                                refine zx_aload_n C dL_law_751 1 rfl ?_
                                refine zx_aload_n C dL_law_752 0 rfl ?_
                                refine zx_iload C dL_law_753 4 rfl ?_
                                refine zx_iconst (v := 1) C dL_law_755 (by decide) ?_
                                refine zx_iadd C dL_law_756 ?_
                                obtain ⟨h253, hm⟩ := ckI_e hm
                                refine zx_sld C hX hbb h253 dL_law_757 ?_
                                refine zx_aload_n C dL_law_758 0 rfl ?_
                                refine zx_iload C dL_law_759 4 rfl ?_
                                refine zx_iconst (v := 2) C dL_law_761 (by decide) ?_
                                refine zx_iadd C dL_law_762 ?_
                                obtain ⟨h254, hm⟩ := ckI_e hm
                                refine zx_sld C hX hbb h254 dL_law_763 ?_
                                refine zx_aload_n C dL_law_764 0 rfl ?_
                                refine zx_iload C dL_law_765 4 rfl ?_
                                refine zx_iconst (v := 3) C dL_law_767 (by decide) ?_
                                refine zx_iadd C dL_law_768 ?_
                                obtain ⟨h255, hm⟩ := ckI_e hm
                                refine zx_sld C hX hbb h255 dL_law_769 ?_
                                refine zx_aload_n C dL_law_770 3 rfl ?_
                                obtain ⟨v256, ρ257, h258, hm⟩ := cll_e hm
                                refine zx_callSH (σ := σ) C [.ref (x1), .int (xs (((x4) + (1)).toNatClampNeg)), .int (xs (((x4) + (2)).toNatClampNeg)), .int (xs (((x4) + (3)).toNatClampNeg)), .ref (x3)] Y_L_write W_5_142 W_5_143 (c_L_write h258) (by decide) (by decide) rfl (Nat.le_of_ble_eq_true rfl) dL_law_771 rfl ?_
                                refine zx_istore C [(5, .int (v256)), (0, .ref (b)), (1, .ref (x1)), (2, .ref (x2)), (3, .ref (x3)), (4, .int (x4))] dL_law_774 (by decide) rfl ?_
                                refine zx_aload_n C dL_law_776 3 rfl ?_
                                refine zx_aload_n C dL_law_777 1 rfl ?_
                                refine zx_iload C dL_law_778 5 rfl ?_
                                refine zx_iconst (v := 1) C dL_law_780 (by decide) ?_
                                refine zx_iadd C dL_law_781 ?_
                                obtain ⟨h259, hm⟩ := ckI_e hm
                                refine zx_sld C hX hbb h259 dL_law_782 ?_
                                refine zx_aload_n C dL_law_783 1 rfl ?_
                                refine zx_iload C dL_law_784 5 rfl ?_
                                refine zx_iconst (v := 2) C dL_law_786 (by decide) ?_
                                refine zx_iadd C dL_law_787 ?_
                                obtain ⟨h260, hm⟩ := ckI_e hm
                                refine zx_sld C hX hbb h260 dL_law_788 ?_
                                refine zx_aload_n C dL_law_789 1 rfl ?_
                                refine zx_iload C dL_law_790 5 rfl ?_
                                refine zx_iconst (v := 3) C dL_law_792 (by decide) ?_
                                refine zx_iadd C dL_law_793 ?_
                                obtain ⟨h261, hm⟩ := ckI_e hm
                                refine zx_sld C hX hbb h261 dL_law_794 ?_
                                obtain ⟨k262, i263, hm⟩ := ckO_e hm
                                obtain ⟨v264, ρ265, h266, hm⟩ := cll_e hm
                                refine zx_callVH (σ := ρ257) C [.int (xs (((x4) + (1)).toNatClampNeg)), .int (xs (((x4) + (2)).toNatClampNeg)), .int (xs (((x4) + (3)).toNatClampNeg))] tC_11 k262 i263 Y_X12_write W_8_225 W_8_226 W_8_227 (c_X12_write h266) (by decide) (by decide) rfl (Nat.le_of_ble_eq_true rfl) dL_law_795 rfl ?_
                                refine zx_istore C [(6, .int (v264)), (5, .int (v256)), (0, .ref (b)), (1, .ref (x1)), (2, .ref (x2)), (3, .ref (x3)), (4, .int (x4))] dL_law_798 (by decide) rfl ?_
                                refine zx_aload_n C dL_law_800 4 rfl ?_
                                obtain ⟨k267, i268, hm⟩ := ckO_e hm
                                obtain ⟨v269, ρ270, h271, hm⟩ := cll_e hm
                                refine zx_callV (σ := ρ265) C [] tC_11 k267 i268 Y_X12_thrown W_6_190 W_6_191 W_6_192 (c_X12_thrown h271) (by decide) (by decide) rfl (Nat.le_of_ble_eq_true rfl) dL_law_801 rfl ?_
                                refine zx_iload C dL_law_804 1 rfl ?_
                                refine zx_icmp_eq C 811 dL_law_806 (by decide) (fun c272 => ?_) (fun c272 => ?_)
                                · replace hm := ip_e hm c272
                                  refine zx_iload C dL_law_811 1 rfl ?_
                                  refine zx_if_ne C 828 dL_law_813 (by decide) (fun c273 => ?_) (fun c273 => ?_)
                                  · replace hm := in_e hm c273
                                    exact zx_lv [2, 3, 4, 5, 6] [(0, .ref (b)), (1, .ref (x1)), (2, .ref (x2)), (3, .ref (x3)), (4, .int (x4))] rfl (j_L_law_828 C htab hin hX hbb hrc23   hm)
                                  · replace hm := ip_e hm c273
                                    refine zx_aload_n C dL_law_816 5 rfl ?_
                                    refine zx_iconst (v := 0) C dL_law_817 (by decide) ?_
                                    obtain ⟨n276, k274, i275, hm⟩ := ckR_e hm
                                    obtain ⟨h277, hm⟩ := ckI_e hm
                                    refine zx_lald C k274 i275 h277 dL_law_818 ?_
                                    refine zx_iload C dL_law_819 0 rfl ?_
                                    refine zx_i2l C dL_law_821 ?_
                                    refine zx_lcmp C dL_law_822 ?_
                                    refine zx_if_eq C 828 dL_law_823 (by decide) (fun c278 => ?_) (fun c278 => ?_)
                                    · replace hm := ip_e hm c278
                                      exact zx_lv [2, 3, 4, 5, 6] [(0, .ref (b)), (1, .ref (x1)), (2, .ref (x2)), (3, .ref (x3)), (4, .int (x4))] rfl (j_L_law_828 C htab hin hX hbb hrc23   hm)
                                    · replace hm := in_e hm c278
                                      refine zx_iconst (v := 0) C dL_law_826 (by decide) ?_
                                      obtain ⟨rfl, rfl⟩ := ret_e hm
                                      exact zx_zret C rfl (by decide) rfl rfl dL_law_827
                                · replace hm := in_e hm c272
                                  refine zx_iconst (v := 0) C dL_law_809 (by decide) ?_
                                  obtain ⟨rfl, rfl⟩ := ret_e hm
                                  exact zx_zret C rfl (by decide) rfl rfl dL_law_810
                              · replace hm := in_e hm c40_12
                                rcases Classical.em ((y18) = (13)) with c40_13 | c40_13
                                · replace hm := ip_e hm c40_13
                                  refine zx_tabIn (off := 791) C 831 dL_law_40 (by rw [c40_13]; decide) (by rw [c40_13]; decide) (by rw [c40_13]; decide) (by decide) ?_
                                  refine zx_aload_n C dL_law_831 1 rfl ?_
                                  refine zx_aload_n C dL_law_832 0 rfl ?_
                                  refine zx_iload C dL_law_833 4 rfl ?_
                                  refine zx_iconst (v := 1) C dL_law_835 (by decide) ?_
                                  refine zx_iadd C dL_law_836 ?_
                                  obtain ⟨h279, hm⟩ := ckI_e hm
                                  refine zx_sld C hX hbb h279 dL_law_837 ?_
                                  refine zx_aload_n C dL_law_838 0 rfl ?_
                                  refine zx_iload C dL_law_839 4 rfl ?_
                                  refine zx_iconst (v := 2) C dL_law_841 (by decide) ?_
                                  refine zx_iadd C dL_law_842 ?_
                                  obtain ⟨h280, hm⟩ := ckI_e hm
                                  refine zx_sld C hX hbb h280 dL_law_843 ?_
                                  refine zx_aload_n C dL_law_844 0 rfl ?_
                                  refine zx_iload C dL_law_845 4 rfl ?_
                                  refine zx_iconst (v := 3) C dL_law_847 (by decide) ?_
                                  refine zx_iadd C dL_law_848 ?_
                                  obtain ⟨h281, hm⟩ := ckI_e hm
                                  refine zx_sld C hX hbb h281 dL_law_849 ?_
                                  refine zx_aload_n C dL_law_850 0 rfl ?_
                                  refine zx_iload C dL_law_851 4 rfl ?_
                                  refine zx_iconst (v := 4) C dL_law_853 (by decide) ?_
                                  refine zx_iadd C dL_law_854 ?_
                                  obtain ⟨h282, hm⟩ := ckI_e hm
                                  refine zx_sld C hX hbb h282 dL_law_855 ?_
                                  refine zx_aload_n C dL_law_856 3 rfl ?_
                                  obtain ⟨v283, ρ284, h285, hm⟩ := cll_e hm
                                  refine zx_callSH (σ := σ) C [.ref (x1), .int (xs (((x4) + (1)).toNatClampNeg)), .int (xs (((x4) + (2)).toNatClampNeg)), .int (xs (((x4) + (3)).toNatClampNeg)), .int (xs (((x4) + (4)).toNatClampNeg)), .ref (x3)] Y_L_fill W_5_163 W_5_164 (c_L_fill h285) (by decide) (by decide) rfl (Nat.le_of_ble_eq_true rfl) dL_law_857 rfl ?_
                                  refine zx_istore C [(5, .int (v283)), (0, .ref (b)), (1, .ref (x1)), (2, .ref (x2)), (3, .ref (x3)), (4, .int (x4))] dL_law_860 (by decide) rfl ?_
                                  refine zx_aload_n C dL_law_862 3 rfl ?_
                                  refine zx_aload_n C dL_law_863 1 rfl ?_
                                  refine zx_iload C dL_law_864 5 rfl ?_
                                  refine zx_iconst (v := 1) C dL_law_866 (by decide) ?_
                                  refine zx_iadd C dL_law_867 ?_
                                  obtain ⟨h286, hm⟩ := ckI_e hm
                                  refine zx_sld C hX hbb h286 dL_law_868 ?_
                                  refine zx_aload_n C dL_law_869 1 rfl ?_
                                  refine zx_iload C dL_law_870 5 rfl ?_
                                  refine zx_iconst (v := 2) C dL_law_872 (by decide) ?_
                                  refine zx_iadd C dL_law_873 ?_
                                  obtain ⟨h287, hm⟩ := ckI_e hm
                                  refine zx_sld C hX hbb h287 dL_law_874 ?_
                                  refine zx_aload_n C dL_law_875 1 rfl ?_
                                  refine zx_iload C dL_law_876 5 rfl ?_
                                  refine zx_iconst (v := 3) C dL_law_878 (by decide) ?_
                                  refine zx_iadd C dL_law_879 ?_
                                  obtain ⟨h288, hm⟩ := ckI_e hm
                                  refine zx_sld C hX hbb h288 dL_law_880 ?_
                                  refine zx_aload_n C dL_law_881 1 rfl ?_
                                  refine zx_iload C dL_law_882 5 rfl ?_
                                  refine zx_iconst (v := 4) C dL_law_884 (by decide) ?_
                                  refine zx_iadd C dL_law_885 ?_
                                  obtain ⟨h289, hm⟩ := ckI_e hm
                                  refine zx_sld C hX hbb h289 dL_law_886 ?_
                                  obtain ⟨k290, i291, hm⟩ := ckO_e hm
                                  obtain ⟨v292, ρ293, h294, hm⟩ := cll_e hm
                                  refine zx_callVH (σ := ρ284) C [.int (xs (((x4) + (1)).toNatClampNeg)), .int (xs (((x4) + (2)).toNatClampNeg)), .int (xs (((x4) + (3)).toNatClampNeg)), .int (xs (((x4) + (4)).toNatClampNeg))] tC_11 k290 i291 Y_X12_fill W_8_234 W_8_235 W_8_236 (c_X12_fill h294) (by decide) (by decide) rfl (Nat.le_of_ble_eq_true rfl) dL_law_887 rfl ?_
                                  refine zx_istore C [(6, .int (v292)), (5, .int (v283)), (0, .ref (b)), (1, .ref (x1)), (2, .ref (x2)), (3, .ref (x3)), (4, .int (x4))] dL_law_890 (by decide) rfl ?_
                                  refine zx_aload_n C dL_law_892 4 rfl ?_
                                  obtain ⟨k295, i296, hm⟩ := ckO_e hm
                                  obtain ⟨v297, ρ298, h299, hm⟩ := cll_e hm
                                  refine zx_callV (σ := ρ293) C [] tC_11 k295 i296 Y_X12_thrown W_6_190 W_6_191 W_6_192 (c_X12_thrown h299) (by decide) (by decide) rfl (Nat.le_of_ble_eq_true rfl) dL_law_893 rfl ?_
                                  refine zx_iload C dL_law_896 1 rfl ?_
                                  refine zx_icmp_eq C 903 dL_law_898 (by decide) (fun c300 => ?_) (fun c300 => ?_)
                                  · replace hm := ip_e hm c300
                                    refine zx_iload C dL_law_903 1 rfl ?_
                                    refine zx_if_ne C 920 dL_law_905 (by decide) (fun c301 => ?_) (fun c301 => ?_)
                                    · replace hm := in_e hm c301
                                      exact zx_lv [2, 3, 4, 5, 6] [(0, .ref (b)), (1, .ref (x1)), (2, .ref (x2)), (3, .ref (x3)), (4, .int (x4))] rfl (j_L_law_920 C htab hin hX hbb hrc23   hm)
                                    · replace hm := ip_e hm c301
                                      refine zx_aload_n C dL_law_908 5 rfl ?_
                                      refine zx_iconst (v := 0) C dL_law_909 (by decide) ?_
                                      obtain ⟨n304, k302, i303, hm⟩ := ckR_e hm
                                      obtain ⟨h305, hm⟩ := ckI_e hm
                                      refine zx_lald C k302 i303 h305 dL_law_910 ?_
                                      refine zx_iload C dL_law_911 0 rfl ?_
                                      refine zx_i2l C dL_law_913 ?_
                                      refine zx_lcmp C dL_law_914 ?_
                                      refine zx_if_eq C 920 dL_law_915 (by decide) (fun c306 => ?_) (fun c306 => ?_)
                                      · replace hm := ip_e hm c306
                                        exact zx_lv [2, 3, 4, 5, 6] [(0, .ref (b)), (1, .ref (x1)), (2, .ref (x2)), (3, .ref (x3)), (4, .int (x4))] rfl (j_L_law_920 C htab hin hX hbb hrc23   hm)
                                      · replace hm := in_e hm c306
                                        refine zx_iconst (v := 0) C dL_law_918 (by decide) ?_
                                        obtain ⟨rfl, rfl⟩ := ret_e hm
                                        exact zx_zret C rfl (by decide) rfl rfl dL_law_919
                                  · replace hm := in_e hm c300
                                    refine zx_iconst (v := 0) C dL_law_901 (by decide) ?_
                                    obtain ⟨rfl, rfl⟩ := ret_e hm
                                    exact zx_zret C rfl (by decide) rfl rfl dL_law_902
                                · replace hm := in_e hm c40_13
                                  rcases Classical.em ((y18) = (14)) with c40_14 | c40_14
                                  · replace hm := ip_e hm c40_14
                                    refine zx_tabIn (off := 883) C 923 dL_law_40 (by rw [c40_14]; decide) (by rw [c40_14]; decide) (by rw [c40_14]; decide) (by decide) ?_
                                    refine zx_aload_n C dL_law_923 1 rfl ?_
                                    refine zx_aload_n C dL_law_924 0 rfl ?_
                                    refine zx_iload C dL_law_925 4 rfl ?_
                                    refine zx_iconst (v := 1) C dL_law_927 (by decide) ?_
                                    refine zx_iadd C dL_law_928 ?_
                                    obtain ⟨h307, hm⟩ := ckI_e hm
                                    refine zx_sld C hX hbb h307 dL_law_929 ?_
                                    refine zx_aload_n C dL_law_930 0 rfl ?_
                                    refine zx_iload C dL_law_931 4 rfl ?_
                                    refine zx_iconst (v := 2) C dL_law_933 (by decide) ?_
                                    refine zx_iadd C dL_law_934 ?_
                                    obtain ⟨h308, hm⟩ := ckI_e hm
                                    refine zx_sld C hX hbb h308 dL_law_935 ?_
                                    refine zx_aload_n C dL_law_936 3 rfl ?_
                                    obtain ⟨v309, ρ310, h311, hm⟩ := cll_e hm
                                    refine zx_callSH (σ := σ) C [.ref (x1), .int (xs (((x4) + (1)).toNatClampNeg)), .int (xs (((x4) + (2)).toNatClampNeg)), .ref (x3)] Y_L_truncate W_5_174 W_5_175 (c_L_truncate h311) (by decide) (by decide) rfl (Nat.le_of_ble_eq_true rfl) dL_law_937 rfl ?_
                                    refine zx_istore C [(5, .int (v309)), (0, .ref (b)), (1, .ref (x1)), (2, .ref (x2)), (3, .ref (x3)), (4, .int (x4))] dL_law_940 (by decide) rfl ?_
                                    refine zx_aload_n C dL_law_942 3 rfl ?_
                                    refine zx_aload_n C dL_law_943 1 rfl ?_
                                    refine zx_iload C dL_law_944 5 rfl ?_
                                    refine zx_iconst (v := 1) C dL_law_946 (by decide) ?_
                                    refine zx_iadd C dL_law_947 ?_
                                    obtain ⟨h312, hm⟩ := ckI_e hm
                                    refine zx_sld C hX hbb h312 dL_law_948 ?_
                                    refine zx_aload_n C dL_law_949 1 rfl ?_
                                    refine zx_iload C dL_law_950 5 rfl ?_
                                    refine zx_iconst (v := 2) C dL_law_952 (by decide) ?_
                                    refine zx_iadd C dL_law_953 ?_
                                    obtain ⟨h313, hm⟩ := ckI_e hm
                                    refine zx_sld C hX hbb h313 dL_law_954 ?_
                                    obtain ⟨k314, i315, hm⟩ := ckO_e hm
                                    obtain ⟨v316, ρ317, h318, hm⟩ := cll_e hm
                                    refine zx_callVH (σ := ρ310) C [.int (xs (((x4) + (1)).toNatClampNeg)), .int (xs (((x4) + (2)).toNatClampNeg))] tC_11 k314 i315 Y_X12_truncate W_8_238 W_8_239 W_9_0 (c_X12_truncate h318) (by decide) (by decide) rfl (Nat.le_of_ble_eq_true rfl) dL_law_955 rfl ?_
                                    refine zx_istore C [(6, .int (v316)), (5, .int (v309)), (0, .ref (b)), (1, .ref (x1)), (2, .ref (x2)), (3, .ref (x3)), (4, .int (x4))] dL_law_958 (by decide) rfl ?_
                                    refine zx_aload_n C dL_law_960 4 rfl ?_
                                    obtain ⟨k319, i320, hm⟩ := ckO_e hm
                                    obtain ⟨v321, ρ322, h323, hm⟩ := cll_e hm
                                    refine zx_callV (σ := ρ317) C [] tC_11 k319 i320 Y_X12_thrown W_6_190 W_6_191 W_6_192 (c_X12_thrown h323) (by decide) (by decide) rfl (Nat.le_of_ble_eq_true rfl) dL_law_961 rfl ?_
                                    refine zx_iload C dL_law_964 1 rfl ?_
                                    refine zx_icmp_eq C 971 dL_law_966 (by decide) (fun c324 => ?_) (fun c324 => ?_)
                                    · replace hm := ip_e hm c324
                                      refine zx_iload C dL_law_971 1 rfl ?_
                                      refine zx_if_ne C 988 dL_law_973 (by decide) (fun c325 => ?_) (fun c325 => ?_)
                                      · replace hm := in_e hm c325
                                        exact zx_lv [2, 3, 4, 5, 6] [(0, .ref (b)), (1, .ref (x1)), (2, .ref (x2)), (3, .ref (x3)), (4, .int (x4))] rfl (j_L_law_988 C htab hin hX hbb hrc23   hm)
                                      · replace hm := ip_e hm c325
                                        refine zx_aload_n C dL_law_976 5 rfl ?_
                                        refine zx_iconst (v := 0) C dL_law_977 (by decide) ?_
                                        obtain ⟨n328, k326, i327, hm⟩ := ckR_e hm
                                        obtain ⟨h329, hm⟩ := ckI_e hm
                                        refine zx_lald C k326 i327 h329 dL_law_978 ?_
                                        refine zx_iload C dL_law_979 0 rfl ?_
                                        refine zx_i2l C dL_law_981 ?_
                                        refine zx_lcmp C dL_law_982 ?_
                                        refine zx_if_eq C 988 dL_law_983 (by decide) (fun c330 => ?_) (fun c330 => ?_)
                                        · replace hm := ip_e hm c330
                                          exact zx_lv [2, 3, 4, 5, 6] [(0, .ref (b)), (1, .ref (x1)), (2, .ref (x2)), (3, .ref (x3)), (4, .int (x4))] rfl (j_L_law_988 C htab hin hX hbb hrc23   hm)
                                        · replace hm := in_e hm c330
                                          refine zx_iconst (v := 0) C dL_law_986 (by decide) ?_
                                          obtain ⟨rfl, rfl⟩ := ret_e hm
                                          exact zx_zret C rfl (by decide) rfl rfl dL_law_987
                                    · replace hm := in_e hm c324
                                      refine zx_iconst (v := 0) C dL_law_969 (by decide) ?_
                                      obtain ⟨rfl, rfl⟩ := ret_e hm
                                      exact zx_zret C rfl (by decide) rfl rfl dL_law_970
                                  · replace hm := in_e hm c40_14
                                    rcases Classical.em ((y18) = (15)) with c40_15 | c40_15
                                    · replace hm := ip_e hm c40_15
                                      refine zx_tabIn (off := 951) C 991 dL_law_40 (by rw [c40_15]; decide) (by rw [c40_15]; decide) (by rw [c40_15]; decide) (by decide) ?_
                                      refine zx_aload_n C dL_law_991 1 rfl ?_
                                      refine zx_aload_n C dL_law_992 0 rfl ?_
                                      refine zx_iload C dL_law_993 4 rfl ?_
                                      refine zx_iconst (v := 1) C dL_law_995 (by decide) ?_
                                      refine zx_iadd C dL_law_996 ?_
                                      obtain ⟨h331, hm⟩ := ckI_e hm
                                      refine zx_sld C hX hbb h331 dL_law_997 ?_
                                      refine zx_aload_n C dL_law_998 0 rfl ?_
                                      refine zx_iload C dL_law_999 4 rfl ?_
                                      refine zx_iconst (v := 2) C dL_law_1001 (by decide) ?_
                                      refine zx_iadd C dL_law_1002 ?_
                                      obtain ⟨h332, hm⟩ := ckI_e hm
                                      refine zx_sld C hX hbb h332 dL_law_1003 ?_
                                      refine zx_aload_n C dL_law_1004 3 rfl ?_
                                      obtain ⟨v333, ρ334, h335, hm⟩ := cll_e hm
                                      refine zx_callSH (σ := σ) C [.ref (x1), .int (xs (((x4) + (1)).toNatClampNeg)), .int (xs (((x4) + (2)).toNatClampNeg)), .ref (x3)] Y_L_byteAt W_5_182 W_5_183 (c_L_byteAt h335) (by decide) (by decide) rfl (Nat.le_of_ble_eq_true rfl) dL_law_1005 rfl ?_
                                      refine zx_istore C [(5, .int (v333)), (0, .ref (b)), (1, .ref (x1)), (2, .ref (x2)), (3, .ref (x3)), (4, .int (x4))] dL_law_1008 (by decide) rfl ?_
                                      refine zx_aload_n C dL_law_1010 3 rfl ?_
                                      refine zx_aload_n C dL_law_1011 1 rfl ?_
                                      refine zx_iload C dL_law_1012 5 rfl ?_
                                      refine zx_iconst (v := 1) C dL_law_1014 (by decide) ?_
                                      refine zx_iadd C dL_law_1015 ?_
                                      obtain ⟨h336, hm⟩ := ckI_e hm
                                      refine zx_sld C hX hbb h336 dL_law_1016 ?_
                                      refine zx_aload_n C dL_law_1017 1 rfl ?_
                                      refine zx_iload C dL_law_1018 5 rfl ?_
                                      refine zx_iconst (v := 2) C dL_law_1020 (by decide) ?_
                                      refine zx_iadd C dL_law_1021 ?_
                                      obtain ⟨h337, hm⟩ := ckI_e hm
                                      refine zx_sld C hX hbb h337 dL_law_1022 ?_
                                      obtain ⟨k338, i339, hm⟩ := ckO_e hm
                                      obtain ⟨v340, ρ341, h342, hm⟩ := cll_e hm
                                      refine zx_callVH (σ := ρ334) C [.int (xs (((x4) + (1)).toNatClampNeg)), .int (xs (((x4) + (2)).toNatClampNeg))] tC_11 k338 i339 Y_X12_byteAt W_9_2 W_9_3 W_9_4 (c_X12_byteAt h342) (by decide) (by decide) rfl (Nat.le_of_ble_eq_true rfl) dL_law_1023 rfl ?_
                                      refine zx_istore C [(6, .int (v340)), (5, .int (v333)), (0, .ref (b)), (1, .ref (x1)), (2, .ref (x2)), (3, .ref (x3)), (4, .int (x4))] dL_law_1026 (by decide) rfl ?_
                                      refine zx_aload_n C dL_law_1028 4 rfl ?_
                                      obtain ⟨k343, i344, hm⟩ := ckO_e hm
                                      obtain ⟨v345, ρ346, h347, hm⟩ := cll_e hm
                                      refine zx_callV (σ := ρ341) C [] tC_11 k343 i344 Y_X12_thrown W_6_190 W_6_191 W_6_192 (c_X12_thrown h347) (by decide) (by decide) rfl (Nat.le_of_ble_eq_true rfl) dL_law_1029 rfl ?_
                                      refine zx_iload C dL_law_1032 1 rfl ?_
                                      refine zx_icmp_eq C 1039 dL_law_1034 (by decide) (fun c348 => ?_) (fun c348 => ?_)
                                      · replace hm := ip_e hm c348
                                        refine zx_iload C dL_law_1039 1 rfl ?_
                                        refine zx_if_ne C 1056 dL_law_1041 (by decide) (fun c349 => ?_) (fun c349 => ?_)
                                        · replace hm := in_e hm c349
                                          exact zx_lv [2, 3, 4, 5, 6] [(0, .ref (b)), (1, .ref (x1)), (2, .ref (x2)), (3, .ref (x3)), (4, .int (x4))] rfl (j_L_law_1056 C htab hin hX hbb hrc23   hm)
                                        · replace hm := ip_e hm c349
                                          refine zx_aload_n C dL_law_1044 5 rfl ?_
                                          refine zx_iconst (v := 0) C dL_law_1045 (by decide) ?_
                                          obtain ⟨n352, k350, i351, hm⟩ := ckR_e hm
                                          obtain ⟨h353, hm⟩ := ckI_e hm
                                          refine zx_lald C k350 i351 h353 dL_law_1046 ?_
                                          refine zx_iload C dL_law_1047 0 rfl ?_
                                          refine zx_i2l C dL_law_1049 ?_
                                          refine zx_lcmp C dL_law_1050 ?_
                                          refine zx_if_eq C 1056 dL_law_1051 (by decide) (fun c354 => ?_) (fun c354 => ?_)
                                          · replace hm := ip_e hm c354
                                            exact zx_lv [2, 3, 4, 5, 6] [(0, .ref (b)), (1, .ref (x1)), (2, .ref (x2)), (3, .ref (x3)), (4, .int (x4))] rfl (j_L_law_1056 C htab hin hX hbb hrc23   hm)
                                          · replace hm := in_e hm c354
                                            refine zx_iconst (v := 0) C dL_law_1054 (by decide) ?_
                                            obtain ⟨rfl, rfl⟩ := ret_e hm
                                            exact zx_zret C rfl (by decide) rfl rfl dL_law_1055
                                      · replace hm := in_e hm c348
                                        refine zx_iconst (v := 0) C dL_law_1037 (by decide) ?_
                                        obtain ⟨rfl, rfl⟩ := ret_e hm
                                        exact zx_zret C rfl (by decide) rfl rfl dL_law_1038
                                    · replace hm := in_e hm c40_15
                                      rcases Classical.em ((y18) = (16)) with c40_16 | c40_16
                                      · replace hm := ip_e hm c40_16
                                        refine zx_tabIn (off := 1019) C 1059 dL_law_40 (by rw [c40_16]; decide) (by rw [c40_16]; decide) (by rw [c40_16]; decide) (by decide) ?_
                                        refine zx_aload_n C dL_law_1059 1 rfl ?_
                                        refine zx_aload_n C dL_law_1060 0 rfl ?_
                                        refine zx_iload C dL_law_1061 4 rfl ?_
                                        refine zx_iconst (v := 1) C dL_law_1063 (by decide) ?_
                                        refine zx_iadd C dL_law_1064 ?_
                                        obtain ⟨h355, hm⟩ := ckI_e hm
                                        refine zx_sld C hX hbb h355 dL_law_1065 ?_
                                        refine zx_aload_n C dL_law_1066 0 rfl ?_
                                        refine zx_iload C dL_law_1067 4 rfl ?_
                                        refine zx_iconst (v := 2) C dL_law_1069 (by decide) ?_
                                        refine zx_iadd C dL_law_1070 ?_
                                        obtain ⟨h356, hm⟩ := ckI_e hm
                                        refine zx_sld C hX hbb h356 dL_law_1071 ?_
                                        refine zx_aload_n C dL_law_1072 0 rfl ?_
                                        refine zx_iload C dL_law_1073 4 rfl ?_
                                        refine zx_iconst (v := 3) C dL_law_1075 (by decide) ?_
                                        refine zx_iadd C dL_law_1076 ?_
                                        obtain ⟨h357, hm⟩ := ckI_e hm
                                        refine zx_sld C hX hbb h357 dL_law_1077 ?_
                                        refine zx_aload_n C dL_law_1078 3 rfl ?_
                                        obtain ⟨v358, ρ359, h360, hm⟩ := cll_e hm
                                        refine zx_callSH (σ := σ) C [.ref (x1), .int (xs (((x4) + (1)).toNatClampNeg)), .int (xs (((x4) + (2)).toNatClampNeg)), .int (xs (((x4) + (3)).toNatClampNeg)), .ref (x3)] Y_L_sum W_5_193 W_5_194 (c_L_sum h360) (by decide) (by decide) rfl (Nat.le_of_ble_eq_true rfl) dL_law_1079 rfl ?_
                                        refine zx_istore C [(5, .int (v358)), (0, .ref (b)), (1, .ref (x1)), (2, .ref (x2)), (3, .ref (x3)), (4, .int (x4))] dL_law_1082 (by decide) rfl ?_
                                        refine zx_aload_n C dL_law_1084 3 rfl ?_
                                        refine zx_aload_n C dL_law_1085 1 rfl ?_
                                        refine zx_iload C dL_law_1086 5 rfl ?_
                                        refine zx_iconst (v := 1) C dL_law_1088 (by decide) ?_
                                        refine zx_iadd C dL_law_1089 ?_
                                        obtain ⟨h361, hm⟩ := ckI_e hm
                                        refine zx_sld C hX hbb h361 dL_law_1090 ?_
                                        refine zx_aload_n C dL_law_1091 1 rfl ?_
                                        refine zx_iload C dL_law_1092 5 rfl ?_
                                        refine zx_iconst (v := 2) C dL_law_1094 (by decide) ?_
                                        refine zx_iadd C dL_law_1095 ?_
                                        obtain ⟨h362, hm⟩ := ckI_e hm
                                        refine zx_sld C hX hbb h362 dL_law_1096 ?_
                                        refine zx_aload_n C dL_law_1097 1 rfl ?_
                                        refine zx_iload C dL_law_1098 5 rfl ?_
                                        refine zx_iconst (v := 3) C dL_law_1100 (by decide) ?_
                                        refine zx_iadd C dL_law_1101 ?_
                                        obtain ⟨h363, hm⟩ := ckI_e hm
                                        refine zx_sld C hX hbb h363 dL_law_1102 ?_
                                        obtain ⟨k364, i365, hm⟩ := ckO_e hm
                                        obtain ⟨v366, ρ367, h368, hm⟩ := cll_e hm
                                        refine zx_callVH (σ := ρ359) C [.int (xs (((x4) + (1)).toNatClampNeg)), .int (xs (((x4) + (2)).toNatClampNeg)), .int (xs (((x4) + (3)).toNatClampNeg))] tC_11 k364 i365 Y_X12_sum W_9_10 W_9_11 W_9_12 (c_X12_sum h368) (by decide) (by decide) rfl (Nat.le_of_ble_eq_true rfl) dL_law_1103 rfl ?_
                                        refine zx_lstore C [(6, .long (v366)), (5, .int (v358)), (0, .ref (b)), (1, .ref (x1)), (2, .ref (x2)), (3, .ref (x3)), (4, .int (x4))] dL_law_1106 (by decide) rfl ?_
                                        refine zx_aload_n C dL_law_1108 4 rfl ?_
                                        obtain ⟨k369, i370, hm⟩ := ckO_e hm
                                        obtain ⟨v371, ρ372, h373, hm⟩ := cll_e hm
                                        refine zx_callV (σ := ρ367) C [] tC_11 k369 i370 Y_X12_thrown W_6_190 W_6_191 W_6_192 (c_X12_thrown h373) (by decide) (by decide) rfl (Nat.le_of_ble_eq_true rfl) dL_law_1109 rfl ?_
                                        refine zx_iload C dL_law_1112 1 rfl ?_
                                        refine zx_icmp_eq C 1119 dL_law_1114 (by decide) (fun c374 => ?_) (fun c374 => ?_)
                                        · replace hm := ip_e hm c374
                                          refine zx_iload C dL_law_1119 1 rfl ?_
                                          refine zx_if_ne C 1135 dL_law_1121 (by decide) (fun c375 => ?_) (fun c375 => ?_)
                                          · replace hm := in_e hm c375
                                            exact zx_lv [2, 3, 4, 5, 6] [(0, .ref (b)), (1, .ref (x1)), (2, .ref (x2)), (3, .ref (x3)), (4, .int (x4))] rfl (j_L_law_1135 C htab hin hX hbb hrc23   hm)
                                          · replace hm := ip_e hm c375
                                            refine zx_aload_n C dL_law_1124 5 rfl ?_
                                            refine zx_iconst (v := 0) C dL_law_1125 (by decide) ?_
                                            obtain ⟨n378, k376, i377, hm⟩ := ckR_e hm
                                            obtain ⟨h379, hm⟩ := ckI_e hm
                                            refine zx_lald C k376 i377 h379 dL_law_1126 ?_
                                            refine zx_lload C dL_law_1127 0 rfl ?_
                                            refine zx_lcmp C dL_law_1129 ?_
                                            refine zx_if_eq C 1135 dL_law_1130 (by decide) (fun c380 => ?_) (fun c380 => ?_)
                                            · replace hm := ip_e hm c380
                                              exact zx_lv [2, 3, 4, 5, 6] [(0, .ref (b)), (1, .ref (x1)), (2, .ref (x2)), (3, .ref (x3)), (4, .int (x4))] rfl (j_L_law_1135 C htab hin hX hbb hrc23   hm)
                                            · replace hm := in_e hm c380
                                              refine zx_iconst (v := 0) C dL_law_1133 (by decide) ?_
                                              obtain ⟨rfl, rfl⟩ := ret_e hm
                                              exact zx_zret C rfl (by decide) rfl rfl dL_law_1134
                                        · replace hm := in_e hm c374
                                          refine zx_iconst (v := 0) C dL_law_1117 (by decide) ?_
                                          obtain ⟨rfl, rfl⟩ := ret_e hm
                                          exact zx_zret C rfl (by decide) rfl rfl dL_law_1118
                                      · replace hm := in_e hm c40_16
                                        rcases Classical.em ((y18) = (17)) with c40_17 | c40_17
                                        · replace hm := ip_e hm c40_17
                                          refine zx_tabIn (off := 1098) C 1138 dL_law_40 (by rw [c40_17]; decide) (by rw [c40_17]; decide) (by rw [c40_17]; decide) (by decide) ?_
                                          refine zx_aload_n C dL_law_1138 1 rfl ?_
                                          refine zx_aload_n C dL_law_1139 0 rfl ?_
                                          refine zx_iload C dL_law_1140 4 rfl ?_
                                          refine zx_iconst (v := 1) C dL_law_1142 (by decide) ?_
                                          refine zx_iadd C dL_law_1143 ?_
                                          obtain ⟨h381, hm⟩ := ckI_e hm
                                          refine zx_sld C hX hbb h381 dL_law_1144 ?_
                                          refine zx_aload_n C dL_law_1145 0 rfl ?_
                                          refine zx_iload C dL_law_1146 4 rfl ?_
                                          refine zx_iconst (v := 2) C dL_law_1148 (by decide) ?_
                                          refine zx_iadd C dL_law_1149 ?_
                                          obtain ⟨h382, hm⟩ := ckI_e hm
                                          refine zx_sld C hX hbb h382 dL_law_1150 ?_
                                          refine zx_if_eq C 1158 dL_law_1151 (by decide) (fun c383 => ?_) (fun c383 => ?_)
                                          · replace hm := ip_e hm c383
                                            refine zx_iconst (v := 0) C dL_law_1158 (by decide) ?_
                                            exact zx_lv [0, 1, 2, 3, 4] [(0, .ref (b)), (1, .ref (x1)), (2, .ref (x2)), (3, .ref (x3)), (4, .int (x4))] rfl (j_L_law_1159 C htab hin hX hbb hrc23   hm)
                                          · replace hm := in_e hm c383
                                            refine zx_iconst (v := 1) C dL_law_1154 (by decide) ?_
                                            refine zx_goto C 1159 dL_law_1155 (by decide) ?_
                                            exact zx_lv [0, 1, 2, 3, 4] [(0, .ref (b)), (1, .ref (x1)), (2, .ref (x2)), (3, .ref (x3)), (4, .int (x4))] rfl (j_L_law_1159 C htab hin hX hbb hrc23   hm)
                                        · replace hm := in_e hm c40_17
                                          rcases Classical.em ((y18) = (18)) with c40_18 | c40_18
                                          · replace hm := ip_e hm c40_18
                                            refine zx_tabIn (off := 1182) C 1222 dL_law_40 (by rw [c40_18]; decide) (by rw [c40_18]; decide) (by rw [c40_18]; decide) (by decide) ?_
                                            refine zx_aload_n C dL_law_1222 1 rfl ?_
                                            refine zx_aload_n C dL_law_1223 0 rfl ?_
                                            refine zx_iload C dL_law_1224 4 rfl ?_
                                            refine zx_iconst (v := 1) C dL_law_1226 (by decide) ?_
                                            refine zx_iadd C dL_law_1227 ?_
                                            obtain ⟨h407, hm⟩ := ckI_e hm
                                            refine zx_sld C hX hbb h407 dL_law_1228 ?_
                                            refine zx_aload_n C dL_law_1229 0 rfl ?_
                                            refine zx_iload C dL_law_1230 4 rfl ?_
                                            refine zx_iconst (v := 2) C dL_law_1232 (by decide) ?_
                                            refine zx_iadd C dL_law_1233 ?_
                                            obtain ⟨h408, hm⟩ := ckI_e hm
                                            refine zx_sld C hX hbb h408 dL_law_1234 ?_
                                            refine zx_aload_n C dL_law_1235 3 rfl ?_
                                            obtain ⟨v409, ρ410, h411, hm⟩ := cll_e hm
                                            refine zx_callSH (σ := σ) C [.ref (x1), .int (xs (((x4) + (1)).toNatClampNeg)), .int (xs (((x4) + (2)).toNatClampNeg)), .ref (x3)] Y_L_infoOf W_5_230 W_5_231 (c_L_infoOf h411) (by decide) (by decide) rfl (Nat.le_of_ble_eq_true rfl) dL_law_1236 rfl ?_
                                            refine zx_istore C [(5, .int (v409)), (0, .ref (b)), (1, .ref (x1)), (2, .ref (x2)), (3, .ref (x3)), (4, .int (x4))] dL_law_1239 (by decide) rfl ?_
                                            refine zx_aload_n C dL_law_1241 3 rfl ?_
                                            refine zx_aload_n C dL_law_1242 1 rfl ?_
                                            refine zx_iload C dL_law_1243 5 rfl ?_
                                            refine zx_iconst (v := 1) C dL_law_1245 (by decide) ?_
                                            refine zx_iadd C dL_law_1246 ?_
                                            obtain ⟨h412, hm⟩ := ckI_e hm
                                            refine zx_sld C hX hbb h412 dL_law_1247 ?_
                                            refine zx_aload_n C dL_law_1248 1 rfl ?_
                                            refine zx_iload C dL_law_1249 5 rfl ?_
                                            refine zx_iconst (v := 2) C dL_law_1251 (by decide) ?_
                                            refine zx_iadd C dL_law_1252 ?_
                                            obtain ⟨h413, hm⟩ := ckI_e hm
                                            refine zx_sld C hX hbb h413 dL_law_1253 ?_
                                            obtain ⟨k414, i415, hm⟩ := ckO_e hm
                                            obtain ⟨v416, ρ417, h418, hm⟩ := cll_e hm
                                            refine zx_callVH (σ := ρ410) C [.int (xs (((x4) + (1)).toNatClampNeg)), .int (xs (((x4) + (2)).toNatClampNeg))] tC_11 k414 i415 Y_X12_infoOf W_9_24 W_9_25 W_9_26 (c_X12_infoOf h418) (by decide) (by decide) rfl (Nat.le_of_ble_eq_true rfl) dL_law_1254 rfl ?_
                                            refine zx_istore C [(6, .int (v416)), (5, .int (v409)), (0, .ref (b)), (1, .ref (x1)), (2, .ref (x2)), (3, .ref (x3)), (4, .int (x4))] dL_law_1257 (by decide) rfl ?_
                                            refine zx_aload_n C dL_law_1259 4 rfl ?_
                                            obtain ⟨k419, i420, hm⟩ := ckO_e hm
                                            obtain ⟨v421, ρ422, h423, hm⟩ := cll_e hm
                                            refine zx_callV (σ := ρ417) C [] tC_11 k419 i420 Y_X12_thrown W_6_190 W_6_191 W_6_192 (c_X12_thrown h423) (by decide) (by decide) rfl (Nat.le_of_ble_eq_true rfl) dL_law_1260 rfl ?_
                                            refine zx_iload C dL_law_1263 1 rfl ?_
                                            refine zx_icmp_eq C 1270 dL_law_1265 (by decide) (fun c424 => ?_) (fun c424 => ?_)
                                            · replace hm := ip_e hm c424
                                              refine zx_iload C dL_law_1270 1 rfl ?_
                                              refine zx_if_ne C 1287 dL_law_1272 (by decide) (fun c425 => ?_) (fun c425 => ?_)
                                              · replace hm := in_e hm c425
                                                exact zx_lv [2, 3, 4, 5, 6] [(0, .ref (b)), (1, .ref (x1)), (2, .ref (x2)), (3, .ref (x3)), (4, .int (x4))] rfl (j_L_law_1287 C htab hin hX hbb hrc23   hm)
                                              · replace hm := ip_e hm c425
                                                refine zx_aload_n C dL_law_1275 5 rfl ?_
                                                refine zx_iconst (v := 0) C dL_law_1276 (by decide) ?_
                                                obtain ⟨n428, k426, i427, hm⟩ := ckR_e hm
                                                obtain ⟨h429, hm⟩ := ckI_e hm
                                                refine zx_lald C k426 i427 h429 dL_law_1277 ?_
                                                refine zx_iload C dL_law_1278 0 rfl ?_
                                                refine zx_i2l C dL_law_1280 ?_
                                                refine zx_lcmp C dL_law_1281 ?_
                                                refine zx_if_eq C 1287 dL_law_1282 (by decide) (fun c430 => ?_) (fun c430 => ?_)
                                                · replace hm := ip_e hm c430
                                                  exact zx_lv [2, 3, 4, 5, 6] [(0, .ref (b)), (1, .ref (x1)), (2, .ref (x2)), (3, .ref (x3)), (4, .int (x4))] rfl (j_L_law_1287 C htab hin hX hbb hrc23   hm)
                                                · replace hm := in_e hm c430
                                                  refine zx_iconst (v := 0) C dL_law_1285 (by decide) ?_
                                                  obtain ⟨rfl, rfl⟩ := ret_e hm
                                                  exact zx_zret C rfl (by decide) rfl rfl dL_law_1286
                                            · replace hm := in_e hm c424
                                              refine zx_iconst (v := 0) C dL_law_1268 (by decide) ?_
                                              obtain ⟨rfl, rfl⟩ := ret_e hm
                                              exact zx_zret C rfl (by decide) rfl rfl dL_law_1269
                                          · replace hm := in_e hm c40_18
                                            rcases Classical.em ((y18) = (19)) with c40_19 | c40_19
                                            · replace hm := ip_e hm c40_19
                                              refine zx_tabIn (off := 1250) C 1290 dL_law_40 (by rw [c40_19]; decide) (by rw [c40_19]; decide) (by rw [c40_19]; decide) (by decide) ?_
                                              refine zx_aload_n C dL_law_1290 1 rfl ?_
                                              refine zx_aload_n C dL_law_1291 0 rfl ?_
                                              refine zx_iload C dL_law_1292 4 rfl ?_
                                              refine zx_iconst (v := 1) C dL_law_1294 (by decide) ?_
                                              refine zx_iadd C dL_law_1295 ?_
                                              obtain ⟨h431, hm⟩ := ckI_e hm
                                              refine zx_sld C hX hbb h431 dL_law_1296 ?_
                                              refine zx_aload_n C dL_law_1297 0 rfl ?_
                                              refine zx_iload C dL_law_1298 4 rfl ?_
                                              refine zx_iconst (v := 2) C dL_law_1300 (by decide) ?_
                                              refine zx_iadd C dL_law_1301 ?_
                                              obtain ⟨h432, hm⟩ := ckI_e hm
                                              refine zx_sld C hX hbb h432 dL_law_1302 ?_
                                              refine zx_aload_n C dL_law_1303 3 rfl ?_
                                              obtain ⟨v433, ρ434, h435, hm⟩ := cll_e hm
                                              refine zx_callSH (σ := σ) C [.ref (x1), .int (xs (((x4) + (1)).toNatClampNeg)), .int (xs (((x4) + (2)).toNatClampNeg)), .ref (x3)] Y_L_entry W_5_237 W_5_238 (c_L_entry h435) (by decide) (by decide) rfl (Nat.le_of_ble_eq_true rfl) dL_law_1304 rfl ?_
                                              refine zx_istore C [(5, .int (v433)), (0, .ref (b)), (1, .ref (x1)), (2, .ref (x2)), (3, .ref (x3)), (4, .int (x4))] dL_law_1307 (by decide) rfl ?_
                                              refine zx_aload_n C dL_law_1309 3 rfl ?_
                                              refine zx_aload_n C dL_law_1310 1 rfl ?_
                                              refine zx_iload C dL_law_1311 5 rfl ?_
                                              refine zx_iconst (v := 1) C dL_law_1313 (by decide) ?_
                                              refine zx_iadd C dL_law_1314 ?_
                                              obtain ⟨h436, hm⟩ := ckI_e hm
                                              refine zx_sld C hX hbb h436 dL_law_1315 ?_
                                              refine zx_aload_n C dL_law_1316 1 rfl ?_
                                              refine zx_iload C dL_law_1317 5 rfl ?_
                                              refine zx_iconst (v := 2) C dL_law_1319 (by decide) ?_
                                              refine zx_iadd C dL_law_1320 ?_
                                              obtain ⟨h437, hm⟩ := ckI_e hm
                                              refine zx_sld C hX hbb h437 dL_law_1321 ?_
                                              obtain ⟨k438, i439, hm⟩ := ckO_e hm
                                              obtain ⟨v440, ρ441, h442, hm⟩ := cll_e hm
                                              refine zx_callVH (σ := ρ434) C [.int (xs (((x4) + (1)).toNatClampNeg)), .int (xs (((x4) + (2)).toNatClampNeg))] tC_11 k438 i439 Y_X12_entry W_9_28 W_9_29 W_9_30 (c_X12_entry h442) (by decide) (by decide) rfl (Nat.le_of_ble_eq_true rfl) dL_law_1322 rfl ?_
                                              refine zx_istore C [(6, .int (v440)), (5, .int (v433)), (0, .ref (b)), (1, .ref (x1)), (2, .ref (x2)), (3, .ref (x3)), (4, .int (x4))] dL_law_1325 (by decide) rfl ?_
                                              refine zx_aload_n C dL_law_1327 4 rfl ?_
                                              obtain ⟨k443, i444, hm⟩ := ckO_e hm
                                              obtain ⟨v445, ρ446, h447, hm⟩ := cll_e hm
                                              refine zx_callV (σ := ρ441) C [] tC_11 k443 i444 Y_X12_thrown W_6_190 W_6_191 W_6_192 (c_X12_thrown h447) (by decide) (by decide) rfl (Nat.le_of_ble_eq_true rfl) dL_law_1328 rfl ?_
                                              refine zx_iload C dL_law_1331 1 rfl ?_
                                              refine zx_icmp_eq C 1338 dL_law_1333 (by decide) (fun c448 => ?_) (fun c448 => ?_)
                                              · replace hm := ip_e hm c448
                                                refine zx_iload C dL_law_1338 1 rfl ?_
                                                refine zx_if_ne C 1355 dL_law_1340 (by decide) (fun c449 => ?_) (fun c449 => ?_)
                                                · replace hm := in_e hm c449
                                                  exact zx_lv [2, 3, 4, 5, 6] [(0, .ref (b)), (1, .ref (x1)), (2, .ref (x2)), (3, .ref (x3)), (4, .int (x4))] rfl (j_L_law_1355 C htab hin hX hbb hrc23   hm)
                                                · replace hm := ip_e hm c449
                                                  refine zx_aload_n C dL_law_1343 5 rfl ?_
                                                  refine zx_iconst (v := 0) C dL_law_1344 (by decide) ?_
                                                  obtain ⟨n452, k450, i451, hm⟩ := ckR_e hm
                                                  obtain ⟨h453, hm⟩ := ckI_e hm
                                                  refine zx_lald C k450 i451 h453 dL_law_1345 ?_
                                                  refine zx_iload C dL_law_1346 0 rfl ?_
                                                  refine zx_i2l C dL_law_1348 ?_
                                                  refine zx_lcmp C dL_law_1349 ?_
                                                  refine zx_if_eq C 1355 dL_law_1350 (by decide) (fun c454 => ?_) (fun c454 => ?_)
                                                  · replace hm := ip_e hm c454
                                                    exact zx_lv [2, 3, 4, 5, 6] [(0, .ref (b)), (1, .ref (x1)), (2, .ref (x2)), (3, .ref (x3)), (4, .int (x4))] rfl (j_L_law_1355 C htab hin hX hbb hrc23   hm)
                                                  · replace hm := in_e hm c454
                                                    refine zx_iconst (v := 0) C dL_law_1353 (by decide) ?_
                                                    obtain ⟨rfl, rfl⟩ := ret_e hm
                                                    exact zx_zret C rfl (by decide) rfl rfl dL_law_1354
                                              · replace hm := in_e hm c448
                                                refine zx_iconst (v := 0) C dL_law_1336 (by decide) ?_
                                                obtain ⟨rfl, rfl⟩ := ret_e hm
                                                exact zx_zret C rfl (by decide) rfl rfl dL_law_1337
                                            · replace hm := in_e hm c40_19
                                              rcases Classical.em ((y18) = (20)) with c40_20 | c40_20
                                              · replace hm := ip_e hm c40_20
                                                refine zx_tabIn (off := 1318) C 1358 dL_law_40 (by rw [c40_20]; decide) (by rw [c40_20]; decide) (by rw [c40_20]; decide) (by decide) ?_
                                                refine zx_aload_n C dL_law_1358 1 rfl ?_
                                                refine zx_aload_n C dL_law_1359 0 rfl ?_
                                                refine zx_iload C dL_law_1360 4 rfl ?_
                                                refine zx_iconst (v := 1) C dL_law_1362 (by decide) ?_
                                                refine zx_iadd C dL_law_1363 ?_
                                                obtain ⟨h455, hm⟩ := ckI_e hm
                                                refine zx_sld C hX hbb h455 dL_law_1364 ?_
                                                refine zx_aload_n C dL_law_1365 3 rfl ?_
                                                obtain ⟨v456, ρ457, h458, hm⟩ := cll_e hm
                                                refine zx_callSH (σ := σ) C [.ref (x1), .int (xs (((x4) + (1)).toNatClampNeg)), .ref (x3)] Y_L_textAt W_6_10 W_6_11 (c_L_textAt h458) (by decide) (by decide) rfl (Nat.le_of_ble_eq_true rfl) dL_law_1366 rfl ?_
                                                refine zx_istore C [(5, .int (v456)), (0, .ref (b)), (1, .ref (x1)), (2, .ref (x2)), (3, .ref (x3)), (4, .int (x4))] dL_law_1369 (by decide) rfl ?_
                                                refine zx_aload_n C dL_law_1371 3 rfl ?_
                                                refine zx_aload_n C dL_law_1372 1 rfl ?_
                                                refine zx_iload C dL_law_1373 5 rfl ?_
                                                refine zx_iconst (v := 1) C dL_law_1375 (by decide) ?_
                                                refine zx_iadd C dL_law_1376 ?_
                                                obtain ⟨h459, hm⟩ := ckI_e hm
                                                refine zx_sld C hX hbb h459 dL_law_1377 ?_
                                                obtain ⟨k460, i461, hm⟩ := ckO_e hm
                                                obtain ⟨v462, ρ463, h464, hm⟩ := cll_e hm
                                                refine zx_callVH (σ := ρ457) C [.int (xs (((x4) + (1)).toNatClampNeg))] tC_11 k460 i461 Y_X12_textAt W_9_32 W_9_33 W_9_34 (c_X12_textAt h464) (by decide) (by decide) rfl (Nat.le_of_ble_eq_true rfl) dL_law_1378 rfl ?_
                                                refine zx_istore C [(6, .int (v462)), (5, .int (v456)), (0, .ref (b)), (1, .ref (x1)), (2, .ref (x2)), (3, .ref (x3)), (4, .int (x4))] dL_law_1381 (by decide) rfl ?_
                                                refine zx_aload_n C dL_law_1383 4 rfl ?_
                                                obtain ⟨k465, i466, hm⟩ := ckO_e hm
                                                obtain ⟨v467, ρ468, h469, hm⟩ := cll_e hm
                                                refine zx_callV (σ := ρ463) C [] tC_11 k465 i466 Y_X12_thrown W_6_190 W_6_191 W_6_192 (c_X12_thrown h469) (by decide) (by decide) rfl (Nat.le_of_ble_eq_true rfl) dL_law_1384 rfl ?_
                                                refine zx_iload C dL_law_1387 1 rfl ?_
                                                refine zx_icmp_eq C 1394 dL_law_1389 (by decide) (fun c470 => ?_) (fun c470 => ?_)
                                                · replace hm := ip_e hm c470
                                                  refine zx_iload C dL_law_1394 1 rfl ?_
                                                  refine zx_if_ne C 1411 dL_law_1396 (by decide) (fun c471 => ?_) (fun c471 => ?_)
                                                  · replace hm := in_e hm c471
                                                    exact zx_lv [2, 3, 4, 5, 6] [(0, .ref (b)), (1, .ref (x1)), (2, .ref (x2)), (3, .ref (x3)), (4, .int (x4))] rfl (j_L_law_1411 C htab hin hX hbb hrc23   hm)
                                                  · replace hm := ip_e hm c471
                                                    refine zx_aload_n C dL_law_1399 5 rfl ?_
                                                    refine zx_iconst (v := 0) C dL_law_1400 (by decide) ?_
                                                    obtain ⟨n474, k472, i473, hm⟩ := ckR_e hm
                                                    obtain ⟨h475, hm⟩ := ckI_e hm
                                                    refine zx_lald C k472 i473 h475 dL_law_1401 ?_
                                                    refine zx_iload C dL_law_1402 0 rfl ?_
                                                    refine zx_i2l C dL_law_1404 ?_
                                                    refine zx_lcmp C dL_law_1405 ?_
                                                    refine zx_if_eq C 1411 dL_law_1406 (by decide) (fun c476 => ?_) (fun c476 => ?_)
                                                    · replace hm := ip_e hm c476
                                                      exact zx_lv [2, 3, 4, 5, 6] [(0, .ref (b)), (1, .ref (x1)), (2, .ref (x2)), (3, .ref (x3)), (4, .int (x4))] rfl (j_L_law_1411 C htab hin hX hbb hrc23   hm)
                                                    · replace hm := in_e hm c476
                                                      refine zx_iconst (v := 0) C dL_law_1409 (by decide) ?_
                                                      obtain ⟨rfl, rfl⟩ := ret_e hm
                                                      exact zx_zret C rfl (by decide) rfl rfl dL_law_1410
                                                · replace hm := in_e hm c470
                                                  refine zx_iconst (v := 0) C dL_law_1392 (by decide) ?_
                                                  obtain ⟨rfl, rfl⟩ := ret_e hm
                                                  exact zx_zret C rfl (by decide) rfl rfl dL_law_1393
                                              · replace hm := in_e hm c40_20
                                                rcases Classical.em ((y18) = (21)) with c40_21 | c40_21
                                                · replace hm := ip_e hm c40_21
                                                  refine zx_tabIn (off := 1374) C 1414 dL_law_40 (by rw [c40_21]; decide) (by rw [c40_21]; decide) (by rw [c40_21]; decide) (by decide) ?_
                                                  refine zx_aload_n C dL_law_1414 1 rfl ?_
                                                  refine zx_aload_n C dL_law_1415 0 rfl ?_
                                                  refine zx_iload C dL_law_1416 4 rfl ?_
                                                  refine zx_iconst (v := 1) C dL_law_1418 (by decide) ?_
                                                  refine zx_iadd C dL_law_1419 ?_
                                                  obtain ⟨h477, hm⟩ := ckI_e hm
                                                  refine zx_sld C hX hbb h477 dL_law_1420 ?_
                                                  refine zx_aload_n C dL_law_1421 0 rfl ?_
                                                  refine zx_iload C dL_law_1422 4 rfl ?_
                                                  refine zx_iconst (v := 2) C dL_law_1424 (by decide) ?_
                                                  refine zx_iadd C dL_law_1425 ?_
                                                  obtain ⟨h478, hm⟩ := ckI_e hm
                                                  refine zx_sld C hX hbb h478 dL_law_1426 ?_
                                                  refine zx_aload_n C dL_law_1427 3 rfl ?_
                                                  obtain ⟨v479, ρ480, h481, hm⟩ := cll_e hm
                                                  refine zx_callSH (σ := σ) C [.ref (x1), .int (xs (((x4) + (1)).toNatClampNeg)), .int (xs (((x4) + (2)).toNatClampNeg)), .ref (x3)] Y_L_blockOf W_6_18 W_6_19 (c_L_blockOf h481) (by decide) (by decide) rfl (Nat.le_of_ble_eq_true rfl) dL_law_1428 rfl ?_
                                                  refine zx_istore C [(5, .int (v479)), (0, .ref (b)), (1, .ref (x1)), (2, .ref (x2)), (3, .ref (x3)), (4, .int (x4))] dL_law_1431 (by decide) rfl ?_
                                                  refine zx_aload_n C dL_law_1433 3 rfl ?_
                                                  refine zx_aload_n C dL_law_1434 1 rfl ?_
                                                  refine zx_iload C dL_law_1435 5 rfl ?_
                                                  refine zx_iconst (v := 1) C dL_law_1437 (by decide) ?_
                                                  refine zx_iadd C dL_law_1438 ?_
                                                  obtain ⟨h482, hm⟩ := ckI_e hm
                                                  refine zx_sld C hX hbb h482 dL_law_1439 ?_
                                                  refine zx_aload_n C dL_law_1440 1 rfl ?_
                                                  refine zx_iload C dL_law_1441 5 rfl ?_
                                                  refine zx_iconst (v := 2) C dL_law_1443 (by decide) ?_
                                                  refine zx_iadd C dL_law_1444 ?_
                                                  obtain ⟨h483, hm⟩ := ckI_e hm
                                                  refine zx_sld C hX hbb h483 dL_law_1445 ?_
                                                  obtain ⟨k484, i485, hm⟩ := ckO_e hm
                                                  obtain ⟨v486, ρ487, h488, hm⟩ := cll_e hm
                                                  refine zx_callVH (σ := ρ480) C [.int (xs (((x4) + (1)).toNatClampNeg)), .int (xs (((x4) + (2)).toNatClampNeg))] tC_11 k484 i485 Y_X12_blockOf W_9_36 W_9_37 W_9_38 (c_X12_blockOf h488) (by decide) (by decide) rfl (Nat.le_of_ble_eq_true rfl) dL_law_1446 rfl ?_
                                                  refine zx_istore C [(6, .int (v486)), (5, .int (v479)), (0, .ref (b)), (1, .ref (x1)), (2, .ref (x2)), (3, .ref (x3)), (4, .int (x4))] dL_law_1449 (by decide) rfl ?_
                                                  refine zx_aload_n C dL_law_1451 4 rfl ?_
                                                  obtain ⟨k489, i490, hm⟩ := ckO_e hm
                                                  obtain ⟨v491, ρ492, h493, hm⟩ := cll_e hm
                                                  refine zx_callV (σ := ρ487) C [] tC_11 k489 i490 Y_X12_thrown W_6_190 W_6_191 W_6_192 (c_X12_thrown h493) (by decide) (by decide) rfl (Nat.le_of_ble_eq_true rfl) dL_law_1452 rfl ?_
                                                  refine zx_iload C dL_law_1455 1 rfl ?_
                                                  refine zx_icmp_eq C 1462 dL_law_1457 (by decide) (fun c494 => ?_) (fun c494 => ?_)
                                                  · replace hm := ip_e hm c494
                                                    refine zx_iload C dL_law_1462 1 rfl ?_
                                                    refine zx_if_ne C 1479 dL_law_1464 (by decide) (fun c495 => ?_) (fun c495 => ?_)
                                                    · replace hm := in_e hm c495
                                                      exact zx_lv [2, 3, 4, 5, 6] [(0, .ref (b)), (1, .ref (x1)), (2, .ref (x2)), (3, .ref (x3)), (4, .int (x4))] rfl (j_L_law_1479 C htab hin hX hbb hrc23   hm)
                                                    · replace hm := ip_e hm c495
                                                      refine zx_aload_n C dL_law_1467 5 rfl ?_
                                                      refine zx_iconst (v := 0) C dL_law_1468 (by decide) ?_
                                                      obtain ⟨n498, k496, i497, hm⟩ := ckR_e hm
                                                      obtain ⟨h499, hm⟩ := ckI_e hm
                                                      refine zx_lald C k496 i497 h499 dL_law_1469 ?_
                                                      refine zx_iload C dL_law_1470 0 rfl ?_
                                                      refine zx_i2l C dL_law_1472 ?_
                                                      refine zx_lcmp C dL_law_1473 ?_
                                                      refine zx_if_eq C 1479 dL_law_1474 (by decide) (fun c500 => ?_) (fun c500 => ?_)
                                                      · replace hm := ip_e hm c500
                                                        exact zx_lv [2, 3, 4, 5, 6] [(0, .ref (b)), (1, .ref (x1)), (2, .ref (x2)), (3, .ref (x3)), (4, .int (x4))] rfl (j_L_law_1479 C htab hin hX hbb hrc23   hm)
                                                      · replace hm := in_e hm c500
                                                        refine zx_iconst (v := 0) C dL_law_1477 (by decide) ?_
                                                        obtain ⟨rfl, rfl⟩ := ret_e hm
                                                        exact zx_zret C rfl (by decide) rfl rfl dL_law_1478
                                                  · replace hm := in_e hm c494
                                                    refine zx_iconst (v := 0) C dL_law_1460 (by decide) ?_
                                                    obtain ⟨rfl, rfl⟩ := ret_e hm
                                                    exact zx_zret C rfl (by decide) rfl rfl dL_law_1461
                                                · replace hm := in_e hm c40_21
                                                  rcases Classical.em ((y18) = (22)) with c40_22 | c40_22
                                                  · replace hm := ip_e hm c40_22
                                                    refine zx_tabIn (off := 1442) C 1482 dL_law_40 (by rw [c40_22]; decide) (by rw [c40_22]; decide) (by rw [c40_22]; decide) (by decide) ?_
                                                    refine zx_aload_n C dL_law_1482 1 rfl ?_
                                                    refine zx_aload_n C dL_law_1483 0 rfl ?_
                                                    refine zx_iload C dL_law_1484 4 rfl ?_
                                                    refine zx_iconst (v := 1) C dL_law_1486 (by decide) ?_
                                                    refine zx_iadd C dL_law_1487 ?_
                                                    obtain ⟨h501, hm⟩ := ckI_e hm
                                                    refine zx_sld C hX hbb h501 dL_law_1488 ?_
                                                    refine zx_aload_n C dL_law_1489 3 rfl ?_
                                                    obtain ⟨v502, ρ503, h504, hm⟩ := cll_e hm
                                                    refine zx_callSH (σ := σ) C [.ref (x1), .int (xs (((x4) + (1)).toNatClampNeg)), .ref (x3)] Y_L_fsync W_6_28 W_6_29 (c_L_fsync h504) (by decide) (by decide) rfl (Nat.le_of_ble_eq_true rfl) dL_law_1490 rfl ?_
                                                    refine zx_istore C [(5, .int (v502)), (0, .ref (b)), (1, .ref (x1)), (2, .ref (x2)), (3, .ref (x3)), (4, .int (x4))] dL_law_1493 (by decide) rfl ?_
                                                    refine zx_aload_n C dL_law_1495 3 rfl ?_
                                                    refine zx_aload_n C dL_law_1496 1 rfl ?_
                                                    refine zx_iload C dL_law_1497 5 rfl ?_
                                                    refine zx_iconst (v := 1) C dL_law_1499 (by decide) ?_
                                                    refine zx_iadd C dL_law_1500 ?_
                                                    obtain ⟨h505, hm⟩ := ckI_e hm
                                                    refine zx_sld C hX hbb h505 dL_law_1501 ?_
                                                    obtain ⟨k506, i507, hm⟩ := ckO_e hm
                                                    obtain ⟨v508, ρ509, h510, hm⟩ := cll_e hm
                                                    refine zx_callVH (σ := ρ503) C [.int (xs (((x4) + (1)).toNatClampNeg))] tC_11 k506 i507 Y_X12_fsync W_9_40 W_9_41 W_9_42 (c_X12_fsync h510) (by decide) (by decide) rfl (Nat.le_of_ble_eq_true rfl) dL_law_1502 rfl ?_
                                                    refine zx_istore C [(6, .int (v508)), (5, .int (v502)), (0, .ref (b)), (1, .ref (x1)), (2, .ref (x2)), (3, .ref (x3)), (4, .int (x4))] dL_law_1505 (by decide) rfl ?_
                                                    refine zx_aload_n C dL_law_1507 4 rfl ?_
                                                    obtain ⟨k511, i512, hm⟩ := ckO_e hm
                                                    obtain ⟨v513, ρ514, h515, hm⟩ := cll_e hm
                                                    refine zx_callV (σ := ρ509) C [] tC_11 k511 i512 Y_X12_thrown W_6_190 W_6_191 W_6_192 (c_X12_thrown h515) (by decide) (by decide) rfl (Nat.le_of_ble_eq_true rfl) dL_law_1508 rfl ?_
                                                    refine zx_iload C dL_law_1511 1 rfl ?_
                                                    refine zx_icmp_eq C 1518 dL_law_1513 (by decide) (fun c516 => ?_) (fun c516 => ?_)
                                                    · replace hm := ip_e hm c516
                                                      refine zx_iload C dL_law_1518 1 rfl ?_
                                                      refine zx_if_ne C 1535 dL_law_1520 (by decide) (fun c517 => ?_) (fun c517 => ?_)
                                                      · replace hm := in_e hm c517
                                                        exact zx_lv [2, 3, 4, 5, 6] [(0, .ref (b)), (1, .ref (x1)), (2, .ref (x2)), (3, .ref (x3)), (4, .int (x4))] rfl (j_L_law_1535 C htab hin hX hbb hrc23   hm)
                                                      · replace hm := ip_e hm c517
                                                        refine zx_aload_n C dL_law_1523 5 rfl ?_
                                                        refine zx_iconst (v := 0) C dL_law_1524 (by decide) ?_
                                                        obtain ⟨n520, k518, i519, hm⟩ := ckR_e hm
                                                        obtain ⟨h521, hm⟩ := ckI_e hm
                                                        refine zx_lald C k518 i519 h521 dL_law_1525 ?_
                                                        refine zx_iload C dL_law_1526 0 rfl ?_
                                                        refine zx_i2l C dL_law_1528 ?_
                                                        refine zx_lcmp C dL_law_1529 ?_
                                                        refine zx_if_eq C 1535 dL_law_1530 (by decide) (fun c522 => ?_) (fun c522 => ?_)
                                                        · replace hm := ip_e hm c522
                                                          exact zx_lv [2, 3, 4, 5, 6] [(0, .ref (b)), (1, .ref (x1)), (2, .ref (x2)), (3, .ref (x3)), (4, .int (x4))] rfl (j_L_law_1535 C htab hin hX hbb hrc23   hm)
                                                        · replace hm := in_e hm c522
                                                          refine zx_iconst (v := 0) C dL_law_1533 (by decide) ?_
                                                          obtain ⟨rfl, rfl⟩ := ret_e hm
                                                          exact zx_zret C rfl (by decide) rfl rfl dL_law_1534
                                                    · replace hm := in_e hm c516
                                                      refine zx_iconst (v := 0) C dL_law_1516 (by decide) ?_
                                                      obtain ⟨rfl, rfl⟩ := ret_e hm
                                                      exact zx_zret C rfl (by decide) rfl rfl dL_law_1517
                                                  · replace hm := in_e hm c40_22
                                                    rcases Classical.em ((y18) = (23)) with c40_23 | c40_23
                                                    · replace hm := ip_e hm c40_23
                                                      refine zx_tabIn (off := 1498) C 1538 dL_law_40 (by rw [c40_23]; decide) (by rw [c40_23]; decide) (by rw [c40_23]; decide) (by decide) ?_
                                                      refine zx_aload_n C dL_law_1538 1 rfl ?_
                                                      refine zx_aload_n C dL_law_1539 0 rfl ?_
                                                      refine zx_iload C dL_law_1540 4 rfl ?_
                                                      refine zx_iconst (v := 1) C dL_law_1542 (by decide) ?_
                                                      refine zx_iadd C dL_law_1543 ?_
                                                      obtain ⟨h523, hm⟩ := ckI_e hm
                                                      refine zx_sld C hX hbb h523 dL_law_1544 ?_
                                                      refine zx_aload_n C dL_law_1545 3 rfl ?_
                                                      obtain ⟨v524, ρ525, h526, hm⟩ := cll_e hm
                                                      refine zx_callSH (σ := σ) C [.ref (x1), .int (xs (((x4) + (1)).toNatClampNeg)), .ref (x3)] Y_L_fdatasync W_6_62 W_6_63 (c_L_fdatasync h526) (by decide) (by decide) rfl (Nat.le_of_ble_eq_true rfl) dL_law_1546 rfl ?_
                                                      refine zx_istore C [(5, .int (v524)), (0, .ref (b)), (1, .ref (x1)), (2, .ref (x2)), (3, .ref (x3)), (4, .int (x4))] dL_law_1549 (by decide) rfl ?_
                                                      refine zx_aload_n C dL_law_1551 3 rfl ?_
                                                      refine zx_aload_n C dL_law_1552 1 rfl ?_
                                                      refine zx_iload C dL_law_1553 5 rfl ?_
                                                      refine zx_iconst (v := 1) C dL_law_1555 (by decide) ?_
                                                      refine zx_iadd C dL_law_1556 ?_
                                                      obtain ⟨h527, hm⟩ := ckI_e hm
                                                      refine zx_sld C hX hbb h527 dL_law_1557 ?_
                                                      obtain ⟨k528, i529, hm⟩ := ckO_e hm
                                                      obtain ⟨v530, ρ531, h532, hm⟩ := cll_e hm
                                                      refine zx_callVH (σ := ρ525) C [.int (xs (((x4) + (1)).toNatClampNeg))] tC_11 k528 i529 Y_X12_fdatasync W_9_48 W_9_49 W_9_50 (c_X12_fdatasync h532) (by decide) (by decide) rfl (Nat.le_of_ble_eq_true rfl) dL_law_1558 rfl ?_
                                                      refine zx_istore C [(6, .int (v530)), (5, .int (v524)), (0, .ref (b)), (1, .ref (x1)), (2, .ref (x2)), (3, .ref (x3)), (4, .int (x4))] dL_law_1561 (by decide) rfl ?_
                                                      refine zx_aload_n C dL_law_1563 4 rfl ?_
                                                      obtain ⟨k533, i534, hm⟩ := ckO_e hm
                                                      obtain ⟨v535, ρ536, h537, hm⟩ := cll_e hm
                                                      refine zx_callV (σ := ρ531) C [] tC_11 k533 i534 Y_X12_thrown W_6_190 W_6_191 W_6_192 (c_X12_thrown h537) (by decide) (by decide) rfl (Nat.le_of_ble_eq_true rfl) dL_law_1564 rfl ?_
                                                      refine zx_iload C dL_law_1567 1 rfl ?_
                                                      refine zx_icmp_eq C 1574 dL_law_1569 (by decide) (fun c538 => ?_) (fun c538 => ?_)
                                                      · replace hm := ip_e hm c538
                                                        refine zx_iload C dL_law_1574 1 rfl ?_
                                                        refine zx_if_ne C 1591 dL_law_1576 (by decide) (fun c539 => ?_) (fun c539 => ?_)
                                                        · replace hm := in_e hm c539
                                                          exact zx_lv [2, 3, 4, 5, 6] [(0, .ref (b)), (1, .ref (x1)), (2, .ref (x2)), (3, .ref (x3)), (4, .int (x4))] rfl (j_L_law_1591 C htab hin hX hbb hrc23   hm)
                                                        · replace hm := ip_e hm c539
                                                          refine zx_aload_n C dL_law_1579 5 rfl ?_
                                                          refine zx_iconst (v := 0) C dL_law_1580 (by decide) ?_
                                                          obtain ⟨n542, k540, i541, hm⟩ := ckR_e hm
                                                          obtain ⟨h543, hm⟩ := ckI_e hm
                                                          refine zx_lald C k540 i541 h543 dL_law_1581 ?_
                                                          refine zx_iload C dL_law_1582 0 rfl ?_
                                                          refine zx_i2l C dL_law_1584 ?_
                                                          refine zx_lcmp C dL_law_1585 ?_
                                                          refine zx_if_eq C 1591 dL_law_1586 (by decide) (fun c544 => ?_) (fun c544 => ?_)
                                                          · replace hm := ip_e hm c544
                                                            exact zx_lv [2, 3, 4, 5, 6] [(0, .ref (b)), (1, .ref (x1)), (2, .ref (x2)), (3, .ref (x3)), (4, .int (x4))] rfl (j_L_law_1591 C htab hin hX hbb hrc23   hm)
                                                          · replace hm := in_e hm c544
                                                            refine zx_iconst (v := 0) C dL_law_1589 (by decide) ?_
                                                            obtain ⟨rfl, rfl⟩ := ret_e hm
                                                            exact zx_zret C rfl (by decide) rfl rfl dL_law_1590
                                                      · replace hm := in_e hm c538
                                                        refine zx_iconst (v := 0) C dL_law_1572 (by decide) ?_
                                                        obtain ⟨rfl, rfl⟩ := ret_e hm
                                                        exact zx_zret C rfl (by decide) rfl rfl dL_law_1573
                                                    · replace hm := in_e hm c40_23
                                                      rcases Classical.em ((y18) = (24)) with c40_24 | c40_24
                                                      · replace hm := ip_e hm c40_24
                                                        refine zx_tabIn (off := 1554) C 1594 dL_law_40 (by rw [c40_24]; decide) (by rw [c40_24]; decide) (by rw [c40_24]; decide) (by decide) ?_
                                                        refine zx_aload_n C dL_law_1594 1 rfl ?_
                                                        refine zx_aload_n C dL_law_1595 3 rfl ?_
                                                        obtain ⟨v545, ρ546, h547, hm⟩ := cll_e hm
                                                        refine zx_callSH (σ := σ) C [.ref (x1), .ref (x3)] Y_L_sync W_6_73 W_6_74 (c_L_sync h547) (by decide) (by decide) rfl (Nat.le_of_ble_eq_true rfl) dL_law_1596 rfl ?_
                                                        refine zx_istore C [(5, .int (v545)), (0, .ref (b)), (1, .ref (x1)), (2, .ref (x2)), (3, .ref (x3)), (4, .int (x4))] dL_law_1599 (by decide) rfl ?_
                                                        refine zx_aload_n C dL_law_1601 3 rfl ?_
                                                        obtain ⟨k548, i549, hm⟩ := ckO_e hm
                                                        obtain ⟨v550, ρ551, h552, hm⟩ := cll_e hm
                                                        refine zx_callVH (σ := ρ546) C [] tC_11 k548 i549 Y_X12_sync W_9_52 W_9_53 W_9_54 (c_X12_sync h552) (by decide) (by decide) rfl (Nat.le_of_ble_eq_true rfl) dL_law_1602 rfl ?_
                                                        refine zx_istore C [(6, .int (v550)), (5, .int (v545)), (0, .ref (b)), (1, .ref (x1)), (2, .ref (x2)), (3, .ref (x3)), (4, .int (x4))] dL_law_1605 (by decide) rfl ?_
                                                        refine zx_aload_n C dL_law_1607 4 rfl ?_
                                                        obtain ⟨k553, i554, hm⟩ := ckO_e hm
                                                        obtain ⟨v555, ρ556, h557, hm⟩ := cll_e hm
                                                        refine zx_callV (σ := ρ551) C [] tC_11 k553 i554 Y_X12_thrown W_6_190 W_6_191 W_6_192 (c_X12_thrown h557) (by decide) (by decide) rfl (Nat.le_of_ble_eq_true rfl) dL_law_1608 rfl ?_
                                                        refine zx_iload C dL_law_1611 1 rfl ?_
                                                        refine zx_icmp_eq C 1618 dL_law_1613 (by decide) (fun c558 => ?_) (fun c558 => ?_)
                                                        · replace hm := ip_e hm c558
                                                          refine zx_iload C dL_law_1618 1 rfl ?_
                                                          refine zx_if_ne C 1635 dL_law_1620 (by decide) (fun c559 => ?_) (fun c559 => ?_)
                                                          · replace hm := in_e hm c559
                                                            exact zx_lv [2, 3, 4, 5, 6] [(0, .ref (b)), (1, .ref (x1)), (2, .ref (x2)), (3, .ref (x3)), (4, .int (x4))] rfl (j_L_law_1635 C htab hin hX hbb hrc23   hm)
                                                          · replace hm := ip_e hm c559
                                                            refine zx_aload_n C dL_law_1623 5 rfl ?_
                                                            refine zx_iconst (v := 0) C dL_law_1624 (by decide) ?_
                                                            obtain ⟨n562, k560, i561, hm⟩ := ckR_e hm
                                                            obtain ⟨h563, hm⟩ := ckI_e hm
                                                            refine zx_lald C k560 i561 h563 dL_law_1625 ?_
                                                            refine zx_iload C dL_law_1626 0 rfl ?_
                                                            refine zx_i2l C dL_law_1628 ?_
                                                            refine zx_lcmp C dL_law_1629 ?_
                                                            refine zx_if_eq C 1635 dL_law_1630 (by decide) (fun c564 => ?_) (fun c564 => ?_)
                                                            · replace hm := ip_e hm c564
                                                              exact zx_lv [2, 3, 4, 5, 6] [(0, .ref (b)), (1, .ref (x1)), (2, .ref (x2)), (3, .ref (x3)), (4, .int (x4))] rfl (j_L_law_1635 C htab hin hX hbb hrc23   hm)
                                                            · replace hm := in_e hm c564
                                                              refine zx_iconst (v := 0) C dL_law_1633 (by decide) ?_
                                                              obtain ⟨rfl, rfl⟩ := ret_e hm
                                                              exact zx_zret C rfl (by decide) rfl rfl dL_law_1634
                                                        · replace hm := in_e hm c558
                                                          refine zx_iconst (v := 0) C dL_law_1616 (by decide) ?_
                                                          obtain ⟨rfl, rfl⟩ := ret_e hm
                                                          exact zx_zret C rfl (by decide) rfl rfl dL_law_1617
                                                      · replace hm := in_e hm c40_24
                                                        rcases Classical.em ((y18) = (25)) with c40_25 | c40_25
                                                        · replace hm := ip_e hm c40_25
                                                          refine zx_tabIn (off := 1598) C 1638 dL_law_40 (by rw [c40_25]; decide) (by rw [c40_25]; decide) (by rw [c40_25]; decide) (by decide) ?_
                                                          refine zx_aload_n C dL_law_1638 1 rfl ?_
                                                          refine zx_aload_n C dL_law_1639 3 rfl ?_
                                                          obtain ⟨v565, ρ566, h567, hm⟩ := cll_e hm
                                                          refine zx_callSH (σ := σ) C [.ref (x1), .ref (x3)] Y_L_post W_6_80 W_6_81 (c_L_post h567) (by decide) (by decide) rfl (Nat.le_of_ble_eq_true rfl) dL_law_1640 rfl ?_
                                                          refine zx_istore C [(5, .int (v565)), (0, .ref (b)), (1, .ref (x1)), (2, .ref (x2)), (3, .ref (x3)), (4, .int (x4))] dL_law_1643 (by decide) rfl ?_
                                                          refine zx_aload_n C dL_law_1645 3 rfl ?_
                                                          obtain ⟨k568, i569, hm⟩ := ckO_e hm
                                                          obtain ⟨v570, ρ571, h572, hm⟩ := cll_e hm
                                                          refine zx_callVH (σ := ρ566) C [] tC_11 k568 i569 Y_X12_post W_9_56 W_9_57 W_9_58 (c_X12_post h572) (by decide) (by decide) rfl (Nat.le_of_ble_eq_true rfl) dL_law_1646 rfl ?_
                                                          refine zx_istore C [(6, .int (v570)), (5, .int (v565)), (0, .ref (b)), (1, .ref (x1)), (2, .ref (x2)), (3, .ref (x3)), (4, .int (x4))] dL_law_1649 (by decide) rfl ?_
                                                          refine zx_aload_n C dL_law_1651 4 rfl ?_
                                                          obtain ⟨k573, i574, hm⟩ := ckO_e hm
                                                          obtain ⟨v575, ρ576, h577, hm⟩ := cll_e hm
                                                          refine zx_callV (σ := ρ571) C [] tC_11 k573 i574 Y_X12_thrown W_6_190 W_6_191 W_6_192 (c_X12_thrown h577) (by decide) (by decide) rfl (Nat.le_of_ble_eq_true rfl) dL_law_1652 rfl ?_
                                                          refine zx_iload C dL_law_1655 1 rfl ?_
                                                          refine zx_icmp_eq C 1662 dL_law_1657 (by decide) (fun c578 => ?_) (fun c578 => ?_)
                                                          · replace hm := ip_e hm c578
                                                            refine zx_iload C dL_law_1662 1 rfl ?_
                                                            refine zx_if_ne C 1679 dL_law_1664 (by decide) (fun c579 => ?_) (fun c579 => ?_)
                                                            · replace hm := in_e hm c579
                                                              exact zx_lv [2, 3, 4, 5, 6] [(0, .ref (b)), (1, .ref (x1)), (2, .ref (x2)), (3, .ref (x3)), (4, .int (x4))] rfl (j_L_law_1679 C htab hin hX hbb hrc23   hm)
                                                            · replace hm := ip_e hm c579
                                                              refine zx_aload_n C dL_law_1667 5 rfl ?_
                                                              refine zx_iconst (v := 0) C dL_law_1668 (by decide) ?_
                                                              obtain ⟨n582, k580, i581, hm⟩ := ckR_e hm
                                                              obtain ⟨h583, hm⟩ := ckI_e hm
                                                              refine zx_lald C k580 i581 h583 dL_law_1669 ?_
                                                              refine zx_iload C dL_law_1670 0 rfl ?_
                                                              refine zx_i2l C dL_law_1672 ?_
                                                              refine zx_lcmp C dL_law_1673 ?_
                                                              refine zx_if_eq C 1679 dL_law_1674 (by decide) (fun c584 => ?_) (fun c584 => ?_)
                                                              · replace hm := ip_e hm c584
                                                                exact zx_lv [2, 3, 4, 5, 6] [(0, .ref (b)), (1, .ref (x1)), (2, .ref (x2)), (3, .ref (x3)), (4, .int (x4))] rfl (j_L_law_1679 C htab hin hX hbb hrc23   hm)
                                                              · replace hm := in_e hm c584
                                                                refine zx_iconst (v := 0) C dL_law_1677 (by decide) ?_
                                                                obtain ⟨rfl, rfl⟩ := ret_e hm
                                                                exact zx_zret C rfl (by decide) rfl rfl dL_law_1678
                                                          · replace hm := in_e hm c578
                                                            refine zx_iconst (v := 0) C dL_law_1660 (by decide) ?_
                                                            obtain ⟨rfl, rfl⟩ := ret_e hm
                                                            exact zx_zret C rfl (by decide) rfl rfl dL_law_1661
                                                        · replace hm := in_e hm c40_25
                                                          rcases Classical.em ((y18) = (26)) with c40_26 | c40_26
                                                          · replace hm := ip_e hm c40_26
                                                            refine zx_tabIn (off := 1642) C 1682 dL_law_40 (by rw [c40_26]; decide) (by rw [c40_26]; decide) (by rw [c40_26]; decide) (by decide) ?_
                                                            refine zx_aload_n C dL_law_1682 1 rfl ?_
                                                            refine zx_aload_n C dL_law_1683 0 rfl ?_
                                                            refine zx_iload C dL_law_1684 4 rfl ?_
                                                            refine zx_iconst (v := 1) C dL_law_1686 (by decide) ?_
                                                            refine zx_iadd C dL_law_1687 ?_
                                                            obtain ⟨h585, hm⟩ := ckI_e hm
                                                            refine zx_sld C hX hbb h585 dL_law_1688 ?_
                                                            refine zx_aload_n C dL_law_1689 3 rfl ?_
                                                            obtain ⟨v586, ρ587, h588, hm⟩ := cll_e hm
                                                            refine zx_callSH (σ := σ) C [.ref (x1), .int (xs (((x4) + (1)).toNatClampNeg)), .ref (x3)] Y_L_writeBack W_6_87 W_6_88 (c_L_writeBack h588) (by decide) (by decide) rfl (Nat.le_of_ble_eq_true rfl) dL_law_1690 rfl ?_
                                                            refine zx_istore C [(5, .int (v586)), (0, .ref (b)), (1, .ref (x1)), (2, .ref (x2)), (3, .ref (x3)), (4, .int (x4))] dL_law_1693 (by decide) rfl ?_
                                                            refine zx_aload_n C dL_law_1695 3 rfl ?_
                                                            refine zx_aload_n C dL_law_1696 1 rfl ?_
                                                            refine zx_iload C dL_law_1697 5 rfl ?_
                                                            refine zx_iconst (v := 1) C dL_law_1699 (by decide) ?_
                                                            refine zx_iadd C dL_law_1700 ?_
                                                            obtain ⟨h589, hm⟩ := ckI_e hm
                                                            refine zx_sld C hX hbb h589 dL_law_1701 ?_
                                                            obtain ⟨k590, i591, hm⟩ := ckO_e hm
                                                            obtain ⟨v592, ρ593, h594, hm⟩ := cll_e hm
                                                            refine zx_callVH (σ := ρ587) C [.int (xs (((x4) + (1)).toNatClampNeg))] tC_11 k590 i591 Y_X12_writeBack W_9_60 W_9_61 W_9_62 (c_X12_writeBack h594) (by decide) (by decide) rfl (Nat.le_of_ble_eq_true rfl) dL_law_1702 rfl ?_
                                                            refine zx_istore C [(6, .int (v592)), (5, .int (v586)), (0, .ref (b)), (1, .ref (x1)), (2, .ref (x2)), (3, .ref (x3)), (4, .int (x4))] dL_law_1705 (by decide) rfl ?_
                                                            refine zx_aload_n C dL_law_1707 4 rfl ?_
                                                            obtain ⟨k595, i596, hm⟩ := ckO_e hm
                                                            obtain ⟨v597, ρ598, h599, hm⟩ := cll_e hm
                                                            refine zx_callV (σ := ρ593) C [] tC_11 k595 i596 Y_X12_thrown W_6_190 W_6_191 W_6_192 (c_X12_thrown h599) (by decide) (by decide) rfl (Nat.le_of_ble_eq_true rfl) dL_law_1708 rfl ?_
                                                            refine zx_iload C dL_law_1711 1 rfl ?_
                                                            refine zx_icmp_eq C 1718 dL_law_1713 (by decide) (fun c600 => ?_) (fun c600 => ?_)
                                                            · replace hm := ip_e hm c600
                                                              refine zx_iload C dL_law_1718 1 rfl ?_
                                                              refine zx_if_ne C 1735 dL_law_1720 (by decide) (fun c601 => ?_) (fun c601 => ?_)
                                                              · replace hm := in_e hm c601
                                                                exact zx_lv [2, 3, 4, 5, 6] [(0, .ref (b)), (1, .ref (x1)), (2, .ref (x2)), (3, .ref (x3)), (4, .int (x4))] rfl (j_L_law_1735 C htab hin hX hbb hrc23   hm)
                                                              · replace hm := ip_e hm c601
                                                                refine zx_aload_n C dL_law_1723 5 rfl ?_
                                                                refine zx_iconst (v := 0) C dL_law_1724 (by decide) ?_
                                                                obtain ⟨n604, k602, i603, hm⟩ := ckR_e hm
                                                                obtain ⟨h605, hm⟩ := ckI_e hm
                                                                refine zx_lald C k602 i603 h605 dL_law_1725 ?_
                                                                refine zx_iload C dL_law_1726 0 rfl ?_
                                                                refine zx_i2l C dL_law_1728 ?_
                                                                refine zx_lcmp C dL_law_1729 ?_
                                                                refine zx_if_eq C 1735 dL_law_1730 (by decide) (fun c606 => ?_) (fun c606 => ?_)
                                                                · replace hm := ip_e hm c606
                                                                  exact zx_lv [2, 3, 4, 5, 6] [(0, .ref (b)), (1, .ref (x1)), (2, .ref (x2)), (3, .ref (x3)), (4, .int (x4))] rfl (j_L_law_1735 C htab hin hX hbb hrc23   hm)
                                                                · replace hm := in_e hm c606
                                                                  refine zx_iconst (v := 0) C dL_law_1733 (by decide) ?_
                                                                  obtain ⟨rfl, rfl⟩ := ret_e hm
                                                                  exact zx_zret C rfl (by decide) rfl rfl dL_law_1734
                                                            · replace hm := in_e hm c600
                                                              refine zx_iconst (v := 0) C dL_law_1716 (by decide) ?_
                                                              obtain ⟨rfl, rfl⟩ := ret_e hm
                                                              exact zx_zret C rfl (by decide) rfl rfl dL_law_1717
                                                          · replace hm := in_e hm c40_26
                                                            rcases Classical.em ((y18) = (27)) with c40_27 | c40_27
                                                            · replace hm := ip_e hm c40_27
                                                              refine zx_tabIn (off := 1698) C 1738 dL_law_40 (by rw [c40_27]; decide) (by rw [c40_27]; decide) (by rw [c40_27]; decide) (by decide) ?_
                                                              refine zx_aload_n C dL_law_1738 1 rfl ?_
                                                              refine zx_aload_n C dL_law_1739 0 rfl ?_
                                                              refine zx_iload C dL_law_1740 4 rfl ?_
                                                              refine zx_iconst (v := 1) C dL_law_1742 (by decide) ?_
                                                              refine zx_iadd C dL_law_1743 ?_
                                                              obtain ⟨h607, hm⟩ := ckI_e hm
                                                              refine zx_sld C hX hbb h607 dL_law_1744 ?_
                                                              refine zx_aload_n C dL_law_1745 3 rfl ?_
                                                              obtain ⟨v608, ρ609, h610, hm⟩ := cll_e hm
                                                              refine zx_callSH (σ := σ) C [.ref (x1), .int (xs (((x4) + (1)).toNatClampNeg)), .ref (x3)] Y_L_apply W_6_94 W_6_95 (c_L_apply h610) (by decide) (by decide) rfl (Nat.le_of_ble_eq_true rfl) dL_law_1746 rfl ?_
                                                              refine zx_istore C [(5, .int (v608)), (0, .ref (b)), (1, .ref (x1)), (2, .ref (x2)), (3, .ref (x3)), (4, .int (x4))] dL_law_1749 (by decide) rfl ?_
                                                              refine zx_aload_n C dL_law_1751 3 rfl ?_
                                                              refine zx_aload_n C dL_law_1752 1 rfl ?_
                                                              refine zx_iload C dL_law_1753 5 rfl ?_
                                                              refine zx_iconst (v := 1) C dL_law_1755 (by decide) ?_
                                                              refine zx_iadd C dL_law_1756 ?_
                                                              obtain ⟨h611, hm⟩ := ckI_e hm
                                                              refine zx_sld C hX hbb h611 dL_law_1757 ?_
                                                              obtain ⟨k612, i613, hm⟩ := ckO_e hm
                                                              obtain ⟨v614, ρ615, h616, hm⟩ := cll_e hm
                                                              refine zx_callVH (σ := ρ609) C [.int (xs (((x4) + (1)).toNatClampNeg))] tC_11 k612 i613 Y_X12_apply W_9_64 W_9_65 W_9_66 (c_X12_apply h616) (by decide) (by decide) rfl (Nat.le_of_ble_eq_true rfl) dL_law_1758 rfl ?_
                                                              refine zx_istore C [(6, .int (v614)), (5, .int (v608)), (0, .ref (b)), (1, .ref (x1)), (2, .ref (x2)), (3, .ref (x3)), (4, .int (x4))] dL_law_1761 (by decide) rfl ?_
                                                              refine zx_aload_n C dL_law_1763 4 rfl ?_
                                                              obtain ⟨k617, i618, hm⟩ := ckO_e hm
                                                              obtain ⟨v619, ρ620, h621, hm⟩ := cll_e hm
                                                              refine zx_callV (σ := ρ615) C [] tC_11 k617 i618 Y_X12_thrown W_6_190 W_6_191 W_6_192 (c_X12_thrown h621) (by decide) (by decide) rfl (Nat.le_of_ble_eq_true rfl) dL_law_1764 rfl ?_
                                                              refine zx_iload C dL_law_1767 1 rfl ?_
                                                              refine zx_icmp_eq C 1774 dL_law_1769 (by decide) (fun c622 => ?_) (fun c622 => ?_)
                                                              · replace hm := ip_e hm c622
                                                                refine zx_iload C dL_law_1774 1 rfl ?_
                                                                refine zx_if_ne C 1791 dL_law_1776 (by decide) (fun c623 => ?_) (fun c623 => ?_)
                                                                · replace hm := in_e hm c623
                                                                  exact zx_lv [2, 3, 4, 5, 6] [(0, .ref (b)), (1, .ref (x1)), (2, .ref (x2)), (3, .ref (x3)), (4, .int (x4))] rfl (j_L_law_1791 C htab hin hX hbb hrc23   hm)
                                                                · replace hm := ip_e hm c623
                                                                  refine zx_aload_n C dL_law_1779 5 rfl ?_
                                                                  refine zx_iconst (v := 0) C dL_law_1780 (by decide) ?_
                                                                  obtain ⟨n626, k624, i625, hm⟩ := ckR_e hm
                                                                  obtain ⟨h627, hm⟩ := ckI_e hm
                                                                  refine zx_lald C k624 i625 h627 dL_law_1781 ?_
                                                                  refine zx_iload C dL_law_1782 0 rfl ?_
                                                                  refine zx_i2l C dL_law_1784 ?_
                                                                  refine zx_lcmp C dL_law_1785 ?_
                                                                  refine zx_if_eq C 1791 dL_law_1786 (by decide) (fun c628 => ?_) (fun c628 => ?_)
                                                                  · replace hm := ip_e hm c628
                                                                    exact zx_lv [2, 3, 4, 5, 6] [(0, .ref (b)), (1, .ref (x1)), (2, .ref (x2)), (3, .ref (x3)), (4, .int (x4))] rfl (j_L_law_1791 C htab hin hX hbb hrc23   hm)
                                                                  · replace hm := in_e hm c628
                                                                    refine zx_iconst (v := 0) C dL_law_1789 (by decide) ?_
                                                                    obtain ⟨rfl, rfl⟩ := ret_e hm
                                                                    exact zx_zret C rfl (by decide) rfl rfl dL_law_1790
                                                              · replace hm := in_e hm c622
                                                                refine zx_iconst (v := 0) C dL_law_1772 (by decide) ?_
                                                                obtain ⟨rfl, rfl⟩ := ret_e hm
                                                                exact zx_zret C rfl (by decide) rfl rfl dL_law_1773
                                                            · replace hm := in_e hm c40_27
                                                              rcases Classical.em ((y18) = (28)) with c40_28 | c40_28
                                                              · replace hm := ip_e hm c40_28
                                                                refine zx_tabIn (off := 1754) C 1794 dL_law_40 (by rw [c40_28]; decide) (by rw [c40_28]; decide) (by rw [c40_28]; decide) (by decide) ?_
                                                                refine zx_aload_n C dL_law_1794 1 rfl ?_
                                                                refine zx_aload_n C dL_law_1795 0 rfl ?_
                                                                refine zx_iload C dL_law_1796 4 rfl ?_
                                                                refine zx_iconst (v := 1) C dL_law_1798 (by decide) ?_
                                                                refine zx_iadd C dL_law_1799 ?_
                                                                obtain ⟨h629, hm⟩ := ckI_e hm
                                                                refine zx_sld C hX hbb h629 dL_law_1800 ?_
                                                                obtain ⟨k630, i631, hm⟩ := ckO_e hm
                                                                obtain ⟨v632, ρ633, h634, hm⟩ := cll_e hm
                                                                refine zx_callV (σ := σ) C [.int (xs (((x4) + (1)).toNatClampNeg))] tC_10 k630 i631 Y_X10_cut W_3_38 W_3_39 W_3_40 (c_X10_cut h634) (by decide) (by decide) rfl (Nat.le_of_ble_eq_true rfl) dL_law_1801 rfl ?_
                                                                refine zx_aload_n C dL_law_1804 2 rfl ?_
                                                                refine zx_aload_n C dL_law_1805 0 rfl ?_
                                                                refine zx_iload C dL_law_1806 4 rfl ?_
                                                                refine zx_iconst (v := 1) C dL_law_1808 (by decide) ?_
                                                                refine zx_iadd C dL_law_1809 ?_
                                                                obtain ⟨h635, hm⟩ := ckI_e hm
                                                                refine zx_sld C hX hbb h635 dL_law_1810 ?_
                                                                obtain ⟨k636, i637, hm⟩ := ckO_e hm
                                                                obtain ⟨v638, ρ639, h640, hm⟩ := cll_e hm
                                                                refine zx_callV (σ := ρ633) C [.int (xs (((x4) + (1)).toNatClampNeg))] tC_11 k636 i637 Y_X12_cut W_9_68 W_9_69 W_9_70 (c_X12_cut h640) (by decide) (by decide) rfl (Nat.le_of_ble_eq_true rfl) dL_law_1811 rfl ?_
                                                                refine zx_icmp_eq C 2051 dL_law_1814 (by decide) (fun c641 => ?_) (fun c641 => ?_)
                                                                · replace hm := ip_e hm c641
                                                                  exact zx_lv [0, 1, 2, 3, 4] [(0, .ref (b)), (1, .ref (x1)), (2, .ref (x2)), (3, .ref (x3)), (4, .int (x4))] rfl (j_L_law_2051 C htab hin hX hbb hrc23   hm)
                                                                · replace hm := in_e hm c641
                                                                  refine zx_iconst (v := 0) C dL_law_1817 (by decide) ?_
                                                                  obtain ⟨rfl, rfl⟩ := ret_e hm
                                                                  exact zx_zret C rfl (by decide) rfl rfl dL_law_1818
                                                              · replace hm := in_e hm c40_28
                                                                rcases Classical.em ((y18) = (29)) with c40_29 | c40_29
                                                                · replace hm := ip_e hm c40_29
                                                                  refine zx_tabIn (off := 1779) C 1819 dL_law_40 (by rw [c40_29]; decide) (by rw [c40_29]; decide) (by rw [c40_29]; decide) (by decide) ?_
                                                                  refine zx_aload_n C dL_law_1819 1 rfl ?_
                                                                  refine zx_aload_n C dL_law_1820 3 rfl ?_
                                                                  obtain ⟨v642, ρ643, h644, hm⟩ := cll_e hm
                                                                  refine zx_callSH (σ := σ) C [.ref (x1), .ref (x3)] Y_L_crash W_6_102 W_6_103 (c_L_crash h644) (by decide) (by decide) rfl (Nat.le_of_ble_eq_true rfl) dL_law_1821 rfl ?_
                                                                  refine zx_istore C [(5, .int (v642)), (0, .ref (b)), (1, .ref (x1)), (2, .ref (x2)), (3, .ref (x3)), (4, .int (x4))] dL_law_1824 (by decide) rfl ?_
                                                                  refine zx_aload_n C dL_law_1826 3 rfl ?_
                                                                  obtain ⟨k645, i646, hm⟩ := ckO_e hm
                                                                  obtain ⟨v647, ρ648, h649, hm⟩ := cll_e hm
                                                                  refine zx_callV (σ := ρ643) C [] tC_11 k645 i646 Y_X12_crash W_9_72 W_9_73 W_9_74 (c_X12_crash h649) (by decide) (by decide) rfl (Nat.le_of_ble_eq_true rfl) dL_law_1827 rfl ?_
                                                                  refine zx_istore C [(6, .int (v647)), (5, .int (v642)), (0, .ref (b)), (1, .ref (x1)), (2, .ref (x2)), (3, .ref (x3)), (4, .int (x4))] dL_law_1830 (by decide) rfl ?_
                                                                  refine zx_aload_n C dL_law_1832 4 rfl ?_
                                                                  obtain ⟨k650, i651, hm⟩ := ckO_e hm
                                                                  obtain ⟨v652, ρ653, h654, hm⟩ := cll_e hm
                                                                  refine zx_callV (σ := ρ648) C [] tC_11 k650 i651 Y_X12_thrown W_6_190 W_6_191 W_6_192 (c_X12_thrown h654) (by decide) (by decide) rfl (Nat.le_of_ble_eq_true rfl) dL_law_1833 rfl ?_
                                                                  refine zx_iload C dL_law_1836 1 rfl ?_
                                                                  refine zx_icmp_eq C 1843 dL_law_1838 (by decide) (fun c655 => ?_) (fun c655 => ?_)
                                                                  · replace hm := ip_e hm c655
                                                                    refine zx_iload C dL_law_1843 1 rfl ?_
                                                                    refine zx_if_ne C 1860 dL_law_1845 (by decide) (fun c656 => ?_) (fun c656 => ?_)
                                                                    · replace hm := in_e hm c656
                                                                      exact zx_lv [2, 3, 4, 5, 6] [(0, .ref (b)), (1, .ref (x1)), (2, .ref (x2)), (3, .ref (x3)), (4, .int (x4))] rfl (j_L_law_1860 C htab hin hX hbb hrc23   hm)
                                                                    · replace hm := ip_e hm c656
                                                                      refine zx_aload_n C dL_law_1848 5 rfl ?_
                                                                      refine zx_iconst (v := 0) C dL_law_1849 (by decide) ?_
                                                                      obtain ⟨n659, k657, i658, hm⟩ := ckR_e hm
                                                                      obtain ⟨h660, hm⟩ := ckI_e hm
                                                                      refine zx_lald C k657 i658 h660 dL_law_1850 ?_
                                                                      refine zx_iload C dL_law_1851 0 rfl ?_
                                                                      refine zx_i2l C dL_law_1853 ?_
                                                                      refine zx_lcmp C dL_law_1854 ?_
                                                                      refine zx_if_eq C 1860 dL_law_1855 (by decide) (fun c661 => ?_) (fun c661 => ?_)
                                                                      · replace hm := ip_e hm c661
                                                                        exact zx_lv [2, 3, 4, 5, 6] [(0, .ref (b)), (1, .ref (x1)), (2, .ref (x2)), (3, .ref (x3)), (4, .int (x4))] rfl (j_L_law_1860 C htab hin hX hbb hrc23   hm)
                                                                      · replace hm := in_e hm c661
                                                                        refine zx_iconst (v := 0) C dL_law_1858 (by decide) ?_
                                                                        obtain ⟨rfl, rfl⟩ := ret_e hm
                                                                        exact zx_zret C rfl (by decide) rfl rfl dL_law_1859
                                                                  · replace hm := in_e hm c655
                                                                    refine zx_iconst (v := 0) C dL_law_1841 (by decide) ?_
                                                                    obtain ⟨rfl, rfl⟩ := ret_e hm
                                                                    exact zx_zret C rfl (by decide) rfl rfl dL_law_1842
                                                                · replace hm := in_e hm c40_29
                                                                  rcases Classical.em ((y18) = (30)) with c40_30 | c40_30
                                                                  · replace hm := ip_e hm c40_30
                                                                    refine zx_tabIn (off := 1823) C 1863 dL_law_40 (by rw [c40_30]; decide) (by rw [c40_30]; decide) (by rw [c40_30]; decide) (by decide) ?_
                                                                    refine zx_aload_n C dL_law_1863 1 rfl ?_
                                                                    refine zx_aload_n C dL_law_1864 0 rfl ?_
                                                                    refine zx_iload C dL_law_1865 4 rfl ?_
                                                                    refine zx_iconst (v := 1) C dL_law_1867 (by decide) ?_
                                                                    refine zx_iadd C dL_law_1868 ?_
                                                                    obtain ⟨h662, hm⟩ := ckI_e hm
                                                                    refine zx_sld C hX hbb h662 dL_law_1869 ?_
                                                                    refine zx_aload_n C dL_law_1870 0 rfl ?_
                                                                    refine zx_iload C dL_law_1871 4 rfl ?_
                                                                    refine zx_iconst (v := 2) C dL_law_1873 (by decide) ?_
                                                                    refine zx_iadd C dL_law_1874 ?_
                                                                    obtain ⟨h663, hm⟩ := ckI_e hm
                                                                    refine zx_sld C hX hbb h663 dL_law_1875 ?_
                                                                    obtain ⟨k664, i665, hm⟩ := ckO_e hm
                                                                    obtain ⟨v666, ρ667, h668, hm⟩ := cll_e hm
                                                                    refine zx_callV (σ := σ) C [.int (xs (((x4) + (1)).toNatClampNeg)), .int (xs (((x4) + (2)).toNatClampNeg))] tC_10 k664 i665 Y_X10_choose W_3_42 W_3_43 W_3_44 (c_X10_choose h668) (by decide) (by decide) rfl (Nat.le_of_ble_eq_true rfl) dL_law_1876 rfl ?_
                                                                    refine zx_aload_n C dL_law_1879 2 rfl ?_
                                                                    refine zx_aload_n C dL_law_1880 0 rfl ?_
                                                                    refine zx_iload C dL_law_1881 4 rfl ?_
                                                                    refine zx_iconst (v := 1) C dL_law_1883 (by decide) ?_
                                                                    refine zx_iadd C dL_law_1884 ?_
                                                                    obtain ⟨h669, hm⟩ := ckI_e hm
                                                                    refine zx_sld C hX hbb h669 dL_law_1885 ?_
                                                                    refine zx_aload_n C dL_law_1886 0 rfl ?_
                                                                    refine zx_iload C dL_law_1887 4 rfl ?_
                                                                    refine zx_iconst (v := 2) C dL_law_1889 (by decide) ?_
                                                                    refine zx_iadd C dL_law_1890 ?_
                                                                    obtain ⟨h670, hm⟩ := ckI_e hm
                                                                    refine zx_sld C hX hbb h670 dL_law_1891 ?_
                                                                    obtain ⟨k671, i672, hm⟩ := ckO_e hm
                                                                    obtain ⟨v673, ρ674, h675, hm⟩ := cll_e hm
                                                                    refine zx_callV (σ := ρ667) C [.int (xs (((x4) + (1)).toNatClampNeg)), .int (xs (((x4) + (2)).toNatClampNeg))] tC_11 k671 i672 Y_X12_choose W_9_80 W_9_81 W_9_82 (c_X12_choose h675) (by decide) (by decide) rfl (Nat.le_of_ble_eq_true rfl) dL_law_1892 rfl ?_
                                                                    refine zx_icmp_eq C 2051 dL_law_1895 (by decide) (fun c676 => ?_) (fun c676 => ?_)
                                                                    · replace hm := ip_e hm c676
                                                                      exact zx_lv [0, 1, 2, 3, 4] [(0, .ref (b)), (1, .ref (x1)), (2, .ref (x2)), (3, .ref (x3)), (4, .int (x4))] rfl (j_L_law_2051 C htab hin hX hbb hrc23   hm)
                                                                    · replace hm := in_e hm c676
                                                                      refine zx_iconst (v := 0) C dL_law_1898 (by decide) ?_
                                                                      obtain ⟨rfl, rfl⟩ := ret_e hm
                                                                      exact zx_zret C rfl (by decide) rfl rfl dL_law_1899
                                                                  · replace hm := in_e hm c40_30
                                                                    rcases Classical.em ((y18) = (31)) with c40_31 | c40_31
                                                                    · replace hm := ip_e hm c40_31
                                                                      refine zx_tabIn (off := 1860) C 1900 dL_law_40 (by rw [c40_31]; decide) (by rw [c40_31]; decide) (by rw [c40_31]; decide) (by decide) ?_
                                                                      refine zx_aload_n C dL_law_1900 1 rfl ?_
                                                                      refine zx_aload_n C dL_law_1901 0 rfl ?_
                                                                      refine zx_iload C dL_law_1902 4 rfl ?_
                                                                      refine zx_iconst (v := 1) C dL_law_1904 (by decide) ?_
                                                                      refine zx_iadd C dL_law_1905 ?_
                                                                      obtain ⟨h677, hm⟩ := ckI_e hm
                                                                      refine zx_sld C hX hbb h677 dL_law_1906 ?_
                                                                      refine zx_i2l C dL_law_1907 ?_
                                                                      refine zx_bipush (v := 32) C dL_law_1908 (by decide) ?_
                                                                      refine zx_lshl C dL_law_1910 ?_
                                                                      refine zx_aload_n C dL_law_1911 0 rfl ?_
                                                                      refine zx_iload C dL_law_1912 4 rfl ?_
                                                                      refine zx_iconst (v := 2) C dL_law_1914 (by decide) ?_
                                                                      refine zx_iadd C dL_law_1915 ?_
                                                                      obtain ⟨h678, hm⟩ := ckI_e hm
                                                                      refine zx_sld C hX hbb h678 dL_law_1916 ?_
                                                                      refine zx_i2l C dL_law_1917 ?_
                                                                      refine zx_ldc2 (v := 4294967295) C W_9_130 dL_law_1918 ?_
                                                                      refine zx_land C dL_law_1921 ?_
                                                                      refine zx_lor C dL_law_1922 ?_
                                                                      obtain ⟨k679, i680, hm⟩ := ckO_e hm
                                                                      obtain ⟨v681, ρ682, h683, hm⟩ := cll_e hm
                                                                      refine zx_callV (σ := σ) C [.long ((((xs (((x4) + (1)).toNatClampNeg)).toInt64) <<< (((32 : Int32)).toInt64 &&& 63)) ||| (((xs (((x4) + (2)).toNatClampNeg)).toInt64) &&& (4294967295)))] tC_10 k679 i680 Y_X10_shuffle W_3_54 W_3_55 W_3_56 (c_X10_shuffle h683) (by decide) (by decide) rfl (Nat.le_of_ble_eq_true rfl) dL_law_1923 rfl ?_
                                                                      refine zx_aload_n C dL_law_1926 2 rfl ?_
                                                                      refine zx_aload_n C dL_law_1927 0 rfl ?_
                                                                      refine zx_iload C dL_law_1928 4 rfl ?_
                                                                      refine zx_iconst (v := 1) C dL_law_1930 (by decide) ?_
                                                                      refine zx_iadd C dL_law_1931 ?_
                                                                      obtain ⟨h684, hm⟩ := ckI_e hm
                                                                      refine zx_sld C hX hbb h684 dL_law_1932 ?_
                                                                      refine zx_i2l C dL_law_1933 ?_
                                                                      refine zx_bipush (v := 32) C dL_law_1934 (by decide) ?_
                                                                      refine zx_lshl C dL_law_1936 ?_
                                                                      refine zx_aload_n C dL_law_1937 0 rfl ?_
                                                                      refine zx_iload C dL_law_1938 4 rfl ?_
                                                                      refine zx_iconst (v := 2) C dL_law_1940 (by decide) ?_
                                                                      refine zx_iadd C dL_law_1941 ?_
                                                                      obtain ⟨h685, hm⟩ := ckI_e hm
                                                                      refine zx_sld C hX hbb h685 dL_law_1942 ?_
                                                                      refine zx_i2l C dL_law_1943 ?_
                                                                      refine zx_ldc2 (v := 4294967295) C W_9_130 dL_law_1944 ?_
                                                                      refine zx_land C dL_law_1947 ?_
                                                                      refine zx_lor C dL_law_1948 ?_
                                                                      obtain ⟨k686, i687, hm⟩ := ckO_e hm
                                                                      obtain ⟨v688, ρ689, h690, hm⟩ := cll_e hm
                                                                      refine zx_callV (σ := ρ682) C [.long ((((xs (((x4) + (1)).toNatClampNeg)).toInt64) <<< (((32 : Int32)).toInt64 &&& 63)) ||| (((xs (((x4) + (2)).toNatClampNeg)).toInt64) &&& (4294967295)))] tC_11 k686 i687 Y_X12_shuffle W_9_85 W_9_86 W_9_87 (c_X12_shuffle h690) (by decide) (by decide) rfl (Nat.le_of_ble_eq_true rfl) dL_law_1949 rfl ?_
                                                                      refine zx_icmp_eq C 2051 dL_law_1952 (by decide) (fun c691 => ?_) (fun c691 => ?_)
                                                                      · replace hm := ip_e hm c691
                                                                        exact zx_lv [0, 1, 2, 3, 4] [(0, .ref (b)), (1, .ref (x1)), (2, .ref (x2)), (3, .ref (x3)), (4, .int (x4))] rfl (j_L_law_2051 C htab hin hX hbb hrc23   hm)
                                                                      · replace hm := in_e hm c691
                                                                        refine zx_iconst (v := 0) C dL_law_1955 (by decide) ?_
                                                                        obtain ⟨rfl, rfl⟩ := ret_e hm
                                                                        exact zx_zret C rfl (by decide) rfl rfl dL_law_1956
                                                                    · replace hm := in_e hm c40_31
                                                                      rcases Classical.em ((y18) = (32)) with c40_32 | c40_32
                                                                      · replace hm := ip_e hm c40_32
                                                                        refine zx_tabIn (off := 1917) C 1957 dL_law_40 (by rw [c40_32]; decide) (by rw [c40_32]; decide) (by rw [c40_32]; decide) (by decide) ?_
                                                                        refine zx_aload_n C dL_law_1957 1 rfl ?_
                                                                        refine zx_aload_n C dL_law_1958 3 rfl ?_
                                                                        obtain ⟨v692, ρ693, h694, hm⟩ := cll_e hm
                                                                        refine zx_callSH (σ := σ) C [.ref (x1), .ref (x3)] Y_L_recover W_6_110 W_6_111 (c_L_recover h694) (by decide) (by decide) rfl (Nat.le_of_ble_eq_true rfl) dL_law_1959 rfl ?_
                                                                        refine zx_istore C [(5, .int (v692)), (0, .ref (b)), (1, .ref (x1)), (2, .ref (x2)), (3, .ref (x3)), (4, .int (x4))] dL_law_1962 (by decide) rfl ?_
                                                                        refine zx_aload_n C dL_law_1964 3 rfl ?_
                                                                        obtain ⟨k695, i696, hm⟩ := ckO_e hm
                                                                        obtain ⟨v697, ρ698, h699, hm⟩ := cll_e hm
                                                                        refine zx_callVH (σ := ρ693) C [] tC_11 k695 i696 Y_X12_recover W_9_90 W_9_91 W_9_92 (c_X12_recover h699) (by decide) (by decide) rfl (Nat.le_of_ble_eq_true rfl) dL_law_1965 rfl ?_
                                                                        refine zx_istore C [(6, .int (v697)), (5, .int (v692)), (0, .ref (b)), (1, .ref (x1)), (2, .ref (x2)), (3, .ref (x3)), (4, .int (x4))] dL_law_1968 (by decide) rfl ?_
                                                                        refine zx_aload_n C dL_law_1970 4 rfl ?_
                                                                        obtain ⟨k700, i701, hm⟩ := ckO_e hm
                                                                        obtain ⟨v702, ρ703, h704, hm⟩ := cll_e hm
                                                                        refine zx_callV (σ := ρ698) C [] tC_11 k700 i701 Y_X12_thrown W_6_190 W_6_191 W_6_192 (c_X12_thrown h704) (by decide) (by decide) rfl (Nat.le_of_ble_eq_true rfl) dL_law_1971 rfl ?_
                                                                        refine zx_iload C dL_law_1974 1 rfl ?_
                                                                        refine zx_icmp_eq C 1981 dL_law_1976 (by decide) (fun c705 => ?_) (fun c705 => ?_)
                                                                        · replace hm := ip_e hm c705
                                                                          refine zx_iload C dL_law_1981 1 rfl ?_
                                                                          refine zx_if_ne C 1998 dL_law_1983 (by decide) (fun c706 => ?_) (fun c706 => ?_)
                                                                          · replace hm := in_e hm c706
                                                                            exact zx_lv [2, 3, 4, 5, 6] [(0, .ref (b)), (1, .ref (x1)), (2, .ref (x2)), (3, .ref (x3)), (4, .int (x4))] rfl (j_L_law_1998 C htab hin hX hbb hrc23   hm)
                                                                          · replace hm := ip_e hm c706
                                                                            refine zx_aload_n C dL_law_1986 5 rfl ?_
                                                                            refine zx_iconst (v := 0) C dL_law_1987 (by decide) ?_
                                                                            obtain ⟨n709, k707, i708, hm⟩ := ckR_e hm
                                                                            obtain ⟨h710, hm⟩ := ckI_e hm
                                                                            refine zx_lald C k707 i708 h710 dL_law_1988 ?_
                                                                            refine zx_iload C dL_law_1989 0 rfl ?_
                                                                            refine zx_i2l C dL_law_1991 ?_
                                                                            refine zx_lcmp C dL_law_1992 ?_
                                                                            refine zx_if_eq C 1998 dL_law_1993 (by decide) (fun c711 => ?_) (fun c711 => ?_)
                                                                            · replace hm := ip_e hm c711
                                                                              exact zx_lv [2, 3, 4, 5, 6] [(0, .ref (b)), (1, .ref (x1)), (2, .ref (x2)), (3, .ref (x3)), (4, .int (x4))] rfl (j_L_law_1998 C htab hin hX hbb hrc23   hm)
                                                                            · replace hm := in_e hm c711
                                                                              refine zx_iconst (v := 0) C dL_law_1996 (by decide) ?_
                                                                              obtain ⟨rfl, rfl⟩ := ret_e hm
                                                                              exact zx_zret C rfl (by decide) rfl rfl dL_law_1997
                                                                        · replace hm := in_e hm c705
                                                                          refine zx_iconst (v := 0) C dL_law_1979 (by decide) ?_
                                                                          obtain ⟨rfl, rfl⟩ := ret_e hm
                                                                          exact zx_zret C rfl (by decide) rfl rfl dL_law_1980
                                                                      · replace hm := in_e hm c40_32
                                                                        rcases Classical.em ((y18) = (33)) with c40_33 | c40_33
                                                                        · replace hm := ip_e hm c40_33
                                                                          refine zx_tabIn (off := 1961) C 2001 dL_law_40 (by rw [c40_33]; decide) (by rw [c40_33]; decide) (by rw [c40_33]; decide) (by decide) ?_
                                                                          refine zx_aload_n C dL_law_2001 1 rfl ?_
                                                                          refine zx_aload_n C dL_law_2002 0 rfl ?_
                                                                          refine zx_iload C dL_law_2003 4 rfl ?_
                                                                          refine zx_iconst (v := 1) C dL_law_2005 (by decide) ?_
                                                                          refine zx_iadd C dL_law_2006 ?_
                                                                          obtain ⟨h712, hm⟩ := ckI_e hm
                                                                          refine zx_sld C hX hbb h712 dL_law_2007 ?_
                                                                          obtain ⟨k713, i714, hm⟩ := ckO_e hm
                                                                          obtain ⟨v715, ρ716, h717, hm⟩ := cll_e hm
                                                                          refine zx_callV (σ := σ) C [.int (xs (((x4) + (1)).toNatClampNeg))] tC_10 k713 i714 Y_X10_versions W_3_63 W_3_64 W_3_65 (c_X10_versions h717) (by decide) (by decide) rfl (Nat.le_of_ble_eq_true rfl) dL_law_2008 rfl ?_
                                                                          refine zx_aload_n C dL_law_2011 2 rfl ?_
                                                                          refine zx_aload_n C dL_law_2012 0 rfl ?_
                                                                          refine zx_iload C dL_law_2013 4 rfl ?_
                                                                          refine zx_iconst (v := 1) C dL_law_2015 (by decide) ?_
                                                                          refine zx_iadd C dL_law_2016 ?_
                                                                          obtain ⟨h718, hm⟩ := ckI_e hm
                                                                          refine zx_sld C hX hbb h718 dL_law_2017 ?_
                                                                          obtain ⟨k719, i720, hm⟩ := ckO_e hm
                                                                          obtain ⟨v721, ρ722, h723, hm⟩ := cll_e hm
                                                                          refine zx_callV (σ := ρ716) C [.int (xs (((x4) + (1)).toNatClampNeg))] tC_11 k719 i720 Y_X12_versions W_9_76 W_9_77 W_9_78 (c_X12_versions h723) (by decide) (by decide) rfl (Nat.le_of_ble_eq_true rfl) dL_law_2018 rfl ?_
                                                                          refine zx_icmp_eq C 2051 dL_law_2021 (by decide) (fun c724 => ?_) (fun c724 => ?_)
                                                                          · replace hm := ip_e hm c724
                                                                            exact zx_lv [0, 1, 2, 3, 4] [(0, .ref (b)), (1, .ref (x1)), (2, .ref (x2)), (3, .ref (x3)), (4, .int (x4))] rfl (j_L_law_2051 C htab hin hX hbb hrc23   hm)
                                                                          · replace hm := in_e hm c724
                                                                            refine zx_iconst (v := 0) C dL_law_2024 (by decide) ?_
                                                                            obtain ⟨rfl, rfl⟩ := ret_e hm
                                                                            exact zx_zret C rfl (by decide) rfl rfl dL_law_2025
                                                                        · replace hm := in_e hm c40_33
                                                                          rcases Classical.em ((y18) = (34)) with c40_34 | c40_34
                                                                          · replace hm := ip_e hm c40_34
                                                                            refine zx_tabIn (off := 1986) C 2026 dL_law_40 (by rw [c40_34]; decide) (by rw [c40_34]; decide) (by rw [c40_34]; decide) (by decide) ?_
                                                                            refine zx_aload_n C dL_law_2026 1 rfl ?_
                                                                            refine zx_aload_n C dL_law_2027 0 rfl ?_
                                                                            refine zx_iload C dL_law_2028 4 rfl ?_
                                                                            refine zx_iconst (v := 1) C dL_law_2030 (by decide) ?_
                                                                            refine zx_iadd C dL_law_2031 ?_
                                                                            obtain ⟨h725, hm⟩ := ckI_e hm
                                                                            refine zx_sld C hX hbb h725 dL_law_2032 ?_
                                                                            obtain ⟨k726, i727, hm⟩ := ckO_e hm
                                                                            obtain ⟨v728, ρ729, h730, hm⟩ := cll_e hm
                                                                            refine zx_callV (σ := σ) C [.int (xs (((x4) + (1)).toNatClampNeg))] tC_10 k726 i727 Y_X10_total W_3_67 W_3_68 W_3_69 (c_X10_total h730) (by decide) (by decide) rfl (Nat.le_of_ble_eq_true rfl) dL_law_2033 rfl ?_
                                                                            refine zx_aload_n C dL_law_2036 2 rfl ?_
                                                                            refine zx_aload_n C dL_law_2037 0 rfl ?_
                                                                            refine zx_iload C dL_law_2038 4 rfl ?_
                                                                            refine zx_iconst (v := 1) C dL_law_2040 (by decide) ?_
                                                                            refine zx_iadd C dL_law_2041 ?_
                                                                            obtain ⟨h731, hm⟩ := ckI_e hm
                                                                            refine zx_sld C hX hbb h731 dL_law_2042 ?_
                                                                            obtain ⟨k732, i733, hm⟩ := ckO_e hm
                                                                            obtain ⟨v734, ρ735, h736, hm⟩ := cll_e hm
                                                                            refine zx_callV (σ := ρ729) C [.int (xs (((x4) + (1)).toNatClampNeg))] tC_11 k732 i733 Y_X12_total W_9_114 W_9_115 W_9_116 (c_X12_total h736) (by decide) (by decide) rfl (Nat.le_of_ble_eq_true rfl) dL_law_2043 rfl ?_
                                                                            refine zx_icmp_eq C 2051 dL_law_2046 (by decide) (fun c737 => ?_) (fun c737 => ?_)
                                                                            · replace hm := ip_e hm c737
                                                                              exact zx_lv [0, 1, 2, 3, 4] [(0, .ref (b)), (1, .ref (x1)), (2, .ref (x2)), (3, .ref (x3)), (4, .int (x4))] rfl (j_L_law_2051 C htab hin hX hbb hrc23   hm)
                                                                            · replace hm := in_e hm c737
                                                                              refine zx_iconst (v := 0) C dL_law_2049 (by decide) ?_
                                                                              obtain ⟨rfl, rfl⟩ := ret_e hm
                                                                              exact zx_zret C rfl (by decide) rfl rfl dL_law_2050
                                                                          · replace hm := in_e hm c40_34
                                                                            have g40_0 : (y18).toInt ≠ 0 := fun e9 => c40_0 (Int32.toInt_inj.mp (e9.trans (by decide)))
                                                                            have g40_1 : (y18).toInt ≠ 1 := fun e9 => c40_1 (Int32.toInt_inj.mp (e9.trans (by decide)))
                                                                            have g40_2 : (y18).toInt ≠ 2 := fun e9 => c40_2 (Int32.toInt_inj.mp (e9.trans (by decide)))
                                                                            have g40_3 : (y18).toInt ≠ 3 := fun e9 => c40_3 (Int32.toInt_inj.mp (e9.trans (by decide)))
                                                                            have g40_4 : (y18).toInt ≠ 4 := fun e9 => c40_4 (Int32.toInt_inj.mp (e9.trans (by decide)))
                                                                            have g40_5 : (y18).toInt ≠ 5 := fun e9 => c40_5 (Int32.toInt_inj.mp (e9.trans (by decide)))
                                                                            have g40_6 : (y18).toInt ≠ 6 := fun e9 => c40_6 (Int32.toInt_inj.mp (e9.trans (by decide)))
                                                                            have g40_7 : (y18).toInt ≠ 7 := fun e9 => c40_7 (Int32.toInt_inj.mp (e9.trans (by decide)))
                                                                            have g40_8 : (y18).toInt ≠ 8 := fun e9 => c40_8 (Int32.toInt_inj.mp (e9.trans (by decide)))
                                                                            have g40_9 : (y18).toInt ≠ 9 := fun e9 => c40_9 (Int32.toInt_inj.mp (e9.trans (by decide)))
                                                                            have g40_10 : (y18).toInt ≠ 10 := fun e9 => c40_10 (Int32.toInt_inj.mp (e9.trans (by decide)))
                                                                            have g40_11 : (y18).toInt ≠ 11 := fun e9 => c40_11 (Int32.toInt_inj.mp (e9.trans (by decide)))
                                                                            have g40_12 : (y18).toInt ≠ 12 := fun e9 => c40_12 (Int32.toInt_inj.mp (e9.trans (by decide)))
                                                                            have g40_13 : (y18).toInt ≠ 13 := fun e9 => c40_13 (Int32.toInt_inj.mp (e9.trans (by decide)))
                                                                            have g40_14 : (y18).toInt ≠ 14 := fun e9 => c40_14 (Int32.toInt_inj.mp (e9.trans (by decide)))
                                                                            have g40_15 : (y18).toInt ≠ 15 := fun e9 => c40_15 (Int32.toInt_inj.mp (e9.trans (by decide)))
                                                                            have g40_16 : (y18).toInt ≠ 16 := fun e9 => c40_16 (Int32.toInt_inj.mp (e9.trans (by decide)))
                                                                            have g40_17 : (y18).toInt ≠ 17 := fun e9 => c40_17 (Int32.toInt_inj.mp (e9.trans (by decide)))
                                                                            have g40_18 : (y18).toInt ≠ 18 := fun e9 => c40_18 (Int32.toInt_inj.mp (e9.trans (by decide)))
                                                                            have g40_19 : (y18).toInt ≠ 19 := fun e9 => c40_19 (Int32.toInt_inj.mp (e9.trans (by decide)))
                                                                            have g40_20 : (y18).toInt ≠ 20 := fun e9 => c40_20 (Int32.toInt_inj.mp (e9.trans (by decide)))
                                                                            have g40_21 : (y18).toInt ≠ 21 := fun e9 => c40_21 (Int32.toInt_inj.mp (e9.trans (by decide)))
                                                                            have g40_22 : (y18).toInt ≠ 22 := fun e9 => c40_22 (Int32.toInt_inj.mp (e9.trans (by decide)))
                                                                            have g40_23 : (y18).toInt ≠ 23 := fun e9 => c40_23 (Int32.toInt_inj.mp (e9.trans (by decide)))
                                                                            have g40_24 : (y18).toInt ≠ 24 := fun e9 => c40_24 (Int32.toInt_inj.mp (e9.trans (by decide)))
                                                                            have g40_25 : (y18).toInt ≠ 25 := fun e9 => c40_25 (Int32.toInt_inj.mp (e9.trans (by decide)))
                                                                            have g40_26 : (y18).toInt ≠ 26 := fun e9 => c40_26 (Int32.toInt_inj.mp (e9.trans (by decide)))
                                                                            have g40_27 : (y18).toInt ≠ 27 := fun e9 => c40_27 (Int32.toInt_inj.mp (e9.trans (by decide)))
                                                                            have g40_28 : (y18).toInt ≠ 28 := fun e9 => c40_28 (Int32.toInt_inj.mp (e9.trans (by decide)))
                                                                            have g40_29 : (y18).toInt ≠ 29 := fun e9 => c40_29 (Int32.toInt_inj.mp (e9.trans (by decide)))
                                                                            have g40_30 : (y18).toInt ≠ 30 := fun e9 => c40_30 (Int32.toInt_inj.mp (e9.trans (by decide)))
                                                                            have g40_31 : (y18).toInt ≠ 31 := fun e9 => c40_31 (Int32.toInt_inj.mp (e9.trans (by decide)))
                                                                            have g40_32 : (y18).toInt ≠ 32 := fun e9 => c40_32 (Int32.toInt_inj.mp (e9.trans (by decide)))
                                                                            have g40_33 : (y18).toInt ≠ 33 := fun e9 => c40_33 (Int32.toInt_inj.mp (e9.trans (by decide)))
                                                                            have g40_34 : (y18).toInt ≠ 34 := fun e9 => c40_34 (Int32.toInt_inj.mp (e9.trans (by decide)))
                                                                            refine zx_tabOut C 2051 dL_law_40 (by omega) (by decide) ?_
                                                                            exact zx_lv [0, 1, 2, 3, 4] [(0, .ref (b)), (1, .ref (x1)), (2, .ref (x2)), (3, .ref (x3)), (4, .int (x4))] rfl (j_L_law_2051 C htab hin hX hbb hrc23   hm)
set_option maxRecDepth 100000 in
set_option maxHeartbeats 4000000 in
theorem c_L_law {p : Program} {l : Launch} {e : Env} {s : State} {m : MethodId} {args : Array Value} {below : List Frame} {meth : Method} {c : Code} {D : va_G} {aC : Nat → ClassId} {b0 fu b L : Nat} {xs : Nat → Int32} {σ τ : tM} {v : Int32} (C : tCx p l s m args meth c yL_law.cls cL_law 8 (some .boolean) D aC b0 σ) (htab : True) (hin : True) (hX : va_X b L xs s s.heap) (hbb : b < b0) (hm : m_L_law b0 fu L xs σ = some (v, τ)) : tX p l e s m args below meth c 8 14 271 D aC b0 σ (.inl (some (.int v))) τ 0 [(0, .ref b)] [] σ := by
  unfold m_L_law at hm
  obtain ⟨hg, hm⟩ := grw_e hm
  refine zx_lv [0] [(0, .ref (b))] rfl ?_
  refine zx_new C tC_10 W_1_20 W_1_21 W_1_1 dL_law_0 ?_
  refine zx_mem (fun ρ1 hρ1 => ?_)
  replace hm := ltb_e hm hρ1
  have k2 : tk ρ1 (b0 + tn σ) = .inl 10 := by rw [hρ1]; exact sN_k _ _ _ _
  have i3 : tIn b0 ρ1 (b0 + tn σ) := by rw [hρ1]; exact sN_i _ _ _ _
  refine zx_dup C dL_law_3 rfl ?_
  obtain ⟨v4, ρ5, h6, hm⟩ := cll_e hm
  refine zx_callI (σ := ρ1) C [] Y_X10_init W_1_22 W_1_23 rfl (c_X10_init h6) (by decide) (by decide) rfl (Nat.le_of_ble_eq_true rfl) dL_law_4 rfl ?_
  refine zx_astore_n C [(1, .ref (b0 + tn σ)), (0, .ref (b))] dL_law_7 rfl (by decide) rfl ?_
  refine zx_new C tC_11 W_6_194 W_6_195 W_1_14 dL_law_8 ?_
  refine zx_mem (fun ρ7 hρ7 => ?_)
  replace hm := ltb_e hm hρ7
  have k8 : tk ρ7 (b0 + tn ρ5) = .inl 11 := by rw [hρ7]; exact sN_k _ _ _ _
  have i9 : tIn b0 ρ7 (b0 + tn ρ5) := by rw [hρ7]; exact sN_i _ _ _ _
  refine zx_dup C dL_law_11 rfl ?_
  obtain ⟨v10, ρ11, h12, hm⟩ := cll_e hm
  refine zx_callI (σ := ρ7) C [] Y_X12_init W_6_196 W_6_197 rfl (c_X12_init h12) (by decide) (by decide) rfl (Nat.le_of_ble_eq_true rfl) dL_law_12 rfl ?_
  refine zx_astore_n C [(2, .ref (b0 + tn ρ5)), (1, .ref (b0 + tn σ)), (0, .ref (b))] dL_law_15 rfl (by decide) rfl ?_
  refine zx_iconst (v := 1) C dL_law_16 (by decide) ?_
  refine zx_newJ C W_1_155 (by decide) (by decide) dL_law_17 ?_
  refine zx_mem (fun ρ13 hρ13 => ?_)
  replace hm := ltb_e hm hρ13
  have k14 : tk ρ13 (b0 + tn ρ11) = .inr (3, ((1 : Int32)).toNatClampNeg) := by rw [hρ13]; exact sN_k _ _ _ _
  have i15 : tIn b0 ρ13 (b0 + tn ρ11) := by rw [hρ13]; exact sN_i _ _ _ _
  refine zx_astore_n C [(3, .ref (b0 + tn ρ11)), (2, .ref (b0 + tn ρ5)), (1, .ref (b0 + tn σ)), (0, .ref (b))] dL_law_19 rfl (by decide) rfl ?_
  refine zx_iconst (v := 0) C dL_law_20 (by decide) ?_
  refine zx_istore C [(4, .int (0)), (3, .ref (b0 + tn ρ11)), (2, .ref (b0 + tn ρ5)), (1, .ref (b0 + tn σ)), (0, .ref (b))] dL_law_21 (by decide) rfl ?_
  exact zx_lv [4, 3, 2, 1, 0] [(0, .ref (b)), (1, .ref (b0 + tn σ)), (2, .ref (b0 + tn ρ5)), (3, .ref (b0 + tn ρ11)), (4, .int (0))] rfl (l_L_law_23 C htab hin hX hbb  _ _ _ _ _ _ hm)
